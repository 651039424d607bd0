theorem nw_onTables {w : Cond} (h : nw_ok w = true) : w.onTables = true := by
  cases w <;> first | rfl | (simp [nw_ok] at h)
set_option maxRecDepth 100000 in
theorem nwL_in : ∀ w ∈ nwL, w ∈ lw_tbl := mem_r [106, 127, 129, 131, 134, 135, 138, 140, 167, 169, 171, 174, 175, 188, 189, 191, 193, 194, 213, 215, 100, 115, 121, 162, 203, 206, 264, 276, 416, 423, 424, 428, 444, 449, 450, 453, 467, 468, 469, 477, 485, 495, 504, 514, 536, 544, 545, 546, 555, 559, 560, 576, 580, 589, 594, 599, 609, 621, 625, 629, 640, 649, 659, 671, 679, 691, 700, 708, 727, 731, 732] (by decide +kernel)
def tmS (i : Nat) : Term := Term.string RX2 ([53, 55, 57, 59, 61, 26].getD i 0)
abbrev gvL : List Cond := flatC (Jvm.Cond.and given_1 narrow_1)
set_option maxRecDepth 100000 in
theorem gv_ex : ∀ i, i < 6 → (Cond.exactly (tmS i) "java/lang/String") ∈ gvL := by decide +kernel
set_option maxRecDepth 100000 in
theorem gv_co : ∀ i, i < 6 → (Cond.eq (.field (tmS i) "java/lang/String" "coder" "B") (.int 0)) ∈ gvL := by decide +kernel
set_option maxRecDepth 100000 in
theorem gv_ar : ∀ i, i < 6 → (Cond.arrayOf (.field (tmS i) "java/lang/String" "value" "[B") .byte) ∈ gvL := by decide +kernel
set_option maxRecDepth 100000 in
theorem gv_le : ∀ i, i < 6 → (Cond.eq (.length (.field (tmS i) "java/lang/String" "value" "[B")) (.int (Int32.ofNat (lenS.getD i 0)))) ∈ gvL := by decide +kernel
set_option maxRecDepth 100000 in
theorem gv_el : ∀ i, i < 6 → ∀ j, j < lenS.getD i 0 → (Cond.eq (.elem (.field (tmS i) "java/lang/String" "value" "[B") (.int (Int32.ofNat j))) (.int ((bytS.getD i []).getD j 0))) ∈ gvL := by decide +kernel
set_option maxRecDepth 100000 in
theorem gv_ne : ∀ i, i < 6 → ∀ j, j < 6 → i ≠ j → (Cond.not (Cond.eq (tmS i) (tmS j))) ∈ gvL ∨ (Cond.not (Cond.eq (tmS j) (tmS i))) ∈ gvL := by decide +kernel
set_option maxRecDepth 100000 in
theorem gv_cs : (Cond.eq (.static "java/lang/String" "COMPACT_STRINGS" "Z") (.int 1)) ∈ gvL := by decide +kernel
set_option maxRecDepth 100000 in
theorem gv_si : (Cond.isRef (.static "jdk/internal/util/Preconditions" "SIOOBE_FORMATTER" "Ljava/util/function/BiFunction;")) ∈ gvL := by decide +kernel
set_option maxRecDepth 100000 in
theorem lenS_lt : ∀ i, i < 6 → lenS.getD i 0 < 2 ^ 31 := by decide +kernel
set_option maxHeartbeats 4000000 in
set_option maxRecDepth 100000 in
theorem lw_env {s : State} {b : Nat} (htsT : ∀ w ∈ lw_tbl, w.before #[Value.ref b] s = true) (hgv : (Jvm.Cond.and given_1 narrow_1).before #[Value.ref b] s = true) : ∃ G : zG, va_K G.1 vwCl [(G.2.1, .int)] s ∧ EN G (fun q : Nat => s.heap.size ≤ q) s s.heap := by
  have hg : ∀ c ∈ gvL, c.before #[Value.ref b] s = true := flat_of_before _ hgv
  have hA : ∀ a : Nat, a < s.heap.size → ¬ (fun q : Nat => s.heap.size ≤ q) a := fun a h z => absurd z (by omega)
  obtain ⟨c0, i0, n0⟩ := u_known (C := RX0) (T := TX0) (N := 5) (n := 5) htsT inX0 (htsT (.instantiable RX0 5) (List.mem_of_getElem? (i := 161) (by decide +kernel)))
  obtain ⟨c1, i1, n1⟩ := u_known (C := RX1) (T := TX1) (N := 9) (n := 9) htsT inX1 (htsT (.instantiable RX1 9) (List.mem_of_getElem? (i := 120) (by decide +kernel)))
  obtain ⟨c2, i2, n2⟩ := u_known (C := RX2) (T := TX2) (N := 2) (n := 2) htsT inX2 (htsT (.instantiable RX2 2) (List.mem_of_getElem? (i := 99) (by decide +kernel)))
  obtain ⟨c3, i3, n3⟩ := u_known (C := RX3) (T := TX3) (N := 5) (n := 5) htsT inX3 (htsT (.instantiable RX3 5) (List.mem_of_getElem? (i := 205) (by decide +kernel)))
  obtain ⟨c4, i4, n4⟩ := u_known (C := RX4) (T := TX4) (N := 3) (n := 3) htsT inX4 (htsT (.instantiable RX4 3) (List.mem_of_getElem? (i := 114) (by decide +kernel)))
  obtain ⟨c5, i5, n5⟩ := u_known (C := RX5) (T := TX5) (N := 9) (n := 9) htsT inX5 (htsT (.instantiable RX5 9) (List.mem_of_getElem? (i := 91) (by decide +kernel)))
  obtain ⟨c6, i6, n6⟩ := u_known (C := RX6) (T := TX6) (N := 14) (n := 14) htsT inX6 (htsT (.instantiable RX6 14) (List.mem_of_getElem? (i := 746) (by decide +kernel)))
  obtain ⟨dC, dI, hKc⟩ : ∃ (dC : Nat → ClassId) (dI : Nat → Nat → Nat), ∀ (k : Nat) (q : vw_C), vwCl[k]? = some q → u_Kn s q.1 q.2.1 q.2.2 (dC k) (dI k) := by
    refine ⟨fun k => if k = 0 then c0 else if k = 1 then c1 else if k = 2 then c2 else if k = 3 then c3 else if k = 4 then c4 else if k = 5 then c5 else c6, fun k => if k = 0 then i0 else if k = 1 then i1 else if k = 2 then i2 else if k = 3 then i3 else if k = 4 then i4 else if k = 5 then i5 else i6, ?_⟩
    intro k q hq
    match k, hq with
    | 0, hq => cases hq; exact n0
    | 1, hq => cases hq; exact n1
    | 2, hq => cases hq; exact n2
    | 3, hq => cases hq; exact n3
    | 4, hq => cases hq; exact n4
    | 5, hq => cases hq; exact n5
    | 6, hq => cases hq; exact n6
    | k + 7, hq => simp [vwCl] at hq
  obtain ⟨cy, hcy1, hcy2⟩ := zn_cy (htsT (.arrayClass .int) (List.mem_of_getElem? (i := 112) (by decide +kernel)))
  obtain ⟨adK, adV, hstr, hev⟩ := vk_Sof (args := #[Value.ref b]) (s := s) (N := 6) (tm := tmS) (len := lenS) (byt := bytS) (A := fun q : Nat => s.heap.size ≤ q) lenS_lt (fun i hi => hg _ (gv_ex i hi)) (fun i hi => hg _ (gv_co i hi)) (fun i hi => hg _ (gv_ar i hi)) (fun i hi => hg _ (gv_le i hi)) (fun i hi j hj => hg _ (gv_el i hi j hj)) (fun i j hi hj hij => (gv_ne i hi j hj hij).elim (fun h => Or.inl (hg _ h)) (fun h => Or.inr (hg _ h))) hA
  refine ⟨((dC, dI), cy, adK, adV), ⟨hKc, fun k q h => ?_⟩, fun w hw => va_Nw.of (nw_onTables (nwL_ok w hw)) (htsT w (nwL_in w hw)), hstr, va_Zof (htsT _ ((List.mem_of_getElem? (i := 305) (by decide +kernel)) : (Cond.laysStatic "java/lang/String" "COMPACT_STRINGS" "Z") ∈ lw_tbl)) (htsT _ ((List.mem_of_getElem? (i := 82) (by decide +kernel)) : (Cond.initialized "java/lang/String") ∈ lw_tbl)) (va_eqi (hg _ gv_cs)) hA, va_Zqof (htsT _ ((List.mem_of_getElem? (i := 321) (by decide +kernel)) : (Cond.laysStatic "jdk/internal/util/Preconditions" "SIOOBE_FORMATTER" "Ljava/util/function/BiFunction;") ∈ lw_tbl)) (htsT _ ((List.mem_of_getElem? (i := 84) (by decide +kernel)) : (Cond.initialized "jdk/internal/util/Preconditions") ∈ lw_tbl)) (hg _ gv_si) hA, ?_⟩
  · match k, h with
    | 0, h => cases h; exact ⟨hcy1, hcy2⟩
    | k + 1, h => simp at h
  · intro q hq
    have hq' : q = (RX2, 53, "e00c00000000;", 0) ∨ q = (RX2, 55, "j0000;", 1) ∨ q = (RX2, 57, "u00;", 2) ∨ q = (RX2, 59, "f00;", 3) ∨ q = (RX2, 61, "", 4) ∨ q = (RX2, 26, "cawkxsn", 5) := by simpa [strL] using hq
    rcases hq' with rfl | rfl | rfl | rfl | rfl | rfl
    · exact vk_R.of (htsT _ (List.mem_of_getElem? (i := 287) (by decide +kernel) : (Cond.stringRef RX2 53 "e00c00000000;") ∈ lw_tbl)) (hev 0 (by decide))
    · exact vk_R.of (htsT _ (List.mem_of_getElem? (i := 288) (by decide +kernel) : (Cond.stringRef RX2 55 "j0000;") ∈ lw_tbl)) (hev 1 (by decide))
    · exact vk_R.of (htsT _ (List.mem_of_getElem? (i := 289) (by decide +kernel) : (Cond.stringRef RX2 57 "u00;") ∈ lw_tbl)) (hev 2 (by decide))
    · exact vk_R.of (htsT _ (List.mem_of_getElem? (i := 290) (by decide +kernel) : (Cond.stringRef RX2 59 "f00;") ∈ lw_tbl)) (hev 3 (by decide))
    · exact vk_R.of (htsT _ (List.mem_of_getElem? (i := 291) (by decide +kernel) : (Cond.stringRef RX2 61 "") ∈ lw_tbl)) (hev 4 (by decide))
    · exact vk_R.of (htsT _ (List.mem_of_getElem? (i := 356) (by decide +kernel) : (Cond.stringRef RX2 26 "cawkxsn") ∈ lw_tbl)) (hev 5 (by decide))
set_option maxHeartbeats 4000000 in
set_option maxRecDepth 100000 in
theorem whole_start {p : Program} {e : Env} {s : State} {m : MethodId} {below : List Frame} {meth : Method} {c : Code} (l : Launch) (hflags : l.flags = flags0) {b L : Nat} {xs : Nat → Int32} (hL : L ≤ 2560) (C0 : lw_At p s m meth c b L xs) : W p l e room_1 s m #[Value.ref b] below meth c s.heap [] 0 0 (lw_Z below #[Value.ref b] s) (entryFrame m ([Value.ref b] : List Value).toArray 4) := by
  obtain ⟨hx, hb, hr, hml, hown, htsT, hX, hbl, hlocks, hgv⟩ := id C0
  obtain ⟨G, hK, hE⟩ := lw_env htsT hgv
  have hown : s.vm.findClass RL = some m.cls := hown
  have hb : c.code = cL_law := hb
  have hts : ∀ w ∈ wsL_law, w.before #[Value.ref b] s = true := fun w h => htsT w (wsL_law_in w h)
  obtain ⟨A, hAe⟩ : ∃ A : Nat → Prop, A = fun q : Nat => s.heap.size ≤ q := ⟨_, rfl⟩
  rw [← hAe] at hE
  have hA : ∀ q : Nat, s.heap.size ≤ q → A q := fun q h => by rw [hAe]; exact h
  have hS : va_S A s.heap s.heap [] := va_S.rf
  have hP : va_P G.1 vwCl ([] : va_W) s.heap := fun k q h => by simp at h
  have hD : va_D A ([] : va_W) := ⟨fun i j p q h => by simp at h, fun k q h => by simp at h⟩
  have hl := lv_entry ([.ref b]) (n := 4) (Nat.le_of_ble_eq_true rfl)
  rw [lg_entry_eq]
  generalize (lg_sl ([.ref b]) ++ List.replicate (4 - (lg_sl ([.ref b])).length) Slot.unset).toArray = ls at hl ⊢
  have hl : lv_has ls 4 [(0, .ref b)] := hl
  refine va_new (ci := 5) (fs := [.null, .null, .null, .int 0, .null, .null, .null, .int 0, .null]) (C := RX5) (T := TX5) (N := 9) hx hb hts inlX5 tyX5 tyX5_ok hown (hts (Cond.classLink RL 7 RX5) (List.mem_of_getElem? (i := 0) (by decide +kernel))) (hts (Cond.instantiable RX5 9) (List.mem_of_getElem? (i := 1) (by decide +kernel))) (hts (Cond.initialized RX5) (List.mem_of_getElem? (i := 2) (by decide +kernel))) hK hP hD hS hA rfl (fun j hj => by rcases (show j = 0 ∨ j = 1 ∨ j = 2 ∨ j = 3 ∨ j = 4 ∨ j = 5 ∨ j = 6 ∨ j = 7 ∨ j = 8 by omega) with rfl | rfl | rfl | rfl | rfl | rfl | rfl | rfl | rfl <;> rfl) (Nat.le_of_ble_eq_true rfl) (Nat.le_of_ble_eq_true rfl) dL_law_0 (fun q5 H hP hD hS => ?_)
  have hP : va_P G.1 vwCl [(q5, .inr (5, [.null, .null, .null, .int 0, .null, .null, .null, .int 0, .null]))] H := hP
  have hD : va_D A [(q5, .inr (5, [.null, .null, .null, .int 0, .null, .null, .null, .int 0, .null]))] := hD
  refine W.widen (k := 1) (n := 9) (Nat.le_of_ble_eq_true rfl) (Nat.le_of_ble_eq_true rfl) ?_
  refine lv_dup hx hb dL_law_3 rfl ?_
  have hFc := zf_of hD hS hA
  refine va_callv (va_runI (As := []) (rest := [.ref q5]) ⟨hx, hb, hml, hown, hts⟩ (c_X5_init l G q5 H.size) (cwI 0 hts gL_law_X5_init rfl rfl rfl (hts (Cond.initialized RX5) (List.mem_of_getElem? (i := 2) (by decide +kernel))) (hts (Cond.methodLink RL 9 yX5_init) (List.mem_of_getElem? (i := 6) (by decide +kernel))) (hts (Cond.instanceMethod yX5_init) (List.mem_of_getElem? (i := 7) (by decide +kernel))) rfl (by decide +kernel) ⟨Nat.le_of_ble_eq_true rfl, Nat.le_of_ble_eq_true rfl⟩) ⟨PcM.blind, PcM.ok hP hD hK hE hS hFc⟩ rfl rfl hl.1 rfl (lv_room (Nat.le_of_ble_eq_true rfl)) dL_law_4 ⟨Nat.le_of_ble_eq_true rfl, Nat.le_of_ble_eq_true rfl⟩) hS (fun q _ h => hFc q h) hFc (fun u1 t H1 locs ht hvm hw hB hz1 hk1 hS => ?_)
  obtain ⟨qq, u1⟩ := u1
  obtain rfl : q5 = qq := hw.symm
  obtain ⟨hP1, hD1⟩ := hB
  rw [ht] at hP1
  have hP : va_P G.1 vwCl (ce_X5 G.2.1 (q5, u1) in_X5) H1 := hP1
  have hD : va_D A (ce_X5 G.2.1 (q5, u1) in_X5) := hD1.weaken (fun _ q _ h => hFc q.1 h)
  clear hP1 hD1 hFc hk1
  generalize hw5 : ce_X5 G.2.1 (q5, u1) in_X5 = w5 at hP hD
  refine lv_astore_n (lv' := [(1, .ref q5), (0, .ref b)]) hx hb dL_law_7 rfl hl (by decide) rfl (fun ls hl => ?_)
  refine va_new (ci := 6) (fs := [.null, .null, .null, .null, .int 0, .null, .null, .int 0, .int 0, .null, .null, .int 0, .null, .int 0]) (C := RX6) (T := TX6) (N := 14) hx hb hts inlX6 tyX6 tyX6_ok hown (hts (Cond.classLink RL 10 RX6) (List.mem_of_getElem? (i := 3) (by decide +kernel))) (hts (Cond.instantiable RX6 14) (List.mem_of_getElem? (i := 4) (by decide +kernel))) (hts (Cond.initialized RX6) (List.mem_of_getElem? (i := 5) (by decide +kernel))) hK hP hD hS hA rfl (fun j hj => by rcases (show j = 0 ∨ j = 1 ∨ j = 2 ∨ j = 3 ∨ j = 4 ∨ j = 5 ∨ j = 6 ∨ j = 7 ∨ j = 8 ∨ j = 9 ∨ j = 10 ∨ j = 11 ∨ j = 12 ∨ j = 13 by omega) with rfl | rfl | rfl | rfl | rfl | rfl | rfl | rfl | rfl | rfl | rfl | rfl | rfl | rfl <;> rfl) (Nat.le_of_ble_eq_true rfl) (Nat.le_of_ble_eq_true rfl) dL_law_8 (fun q6 H hP hD hS => ?_)
  refine lv_dup hx hb dL_law_11 rfl ?_
  have hPc := zp_right hP
  have hDc := zd_right hD
  have hFc := zf_of hDc hS hA
  refine va_callv (va_runI (As := []) (rest := [.ref q6]) ⟨hx, hb, hml, hown, hts⟩ (c_X6_init l G q6 H.size) (cwI 0 hts gL_law_X6_init rfl rfl rfl (hts (Cond.initialized RX6) (List.mem_of_getElem? (i := 5) (by decide +kernel))) (hts (Cond.methodLink RL 12 yX6_init) (List.mem_of_getElem? (i := 66) (by decide +kernel))) (hts (Cond.instanceMethod yX6_init) (List.mem_of_getElem? (i := 67) (by decide +kernel))) rfl (by decide +kernel) ⟨Nat.le_of_ble_eq_true rfl, Nat.le_of_ble_eq_true rfl⟩) ⟨PcM.blind, PcM.ok hPc hDc hK hE hS hFc⟩ rfl rfl hl.1 rfl (lv_room (Nat.le_of_ble_eq_true rfl)) dL_law_12 ⟨Nat.le_of_ble_eq_true rfl, Nat.le_of_ble_eq_true rfl⟩) hS (fun q _ h => hFc q h) hFc (fun u2 t H1 locs ht hvm hw hB hz1 hk1 hS => ?_)
  obtain ⟨qq, u2⟩ := u2
  obtain rfl : q6 = qq := hw.symm
  obtain ⟨hP1, hD1⟩ := hB
  rw [ht] at hP1
  have hD9 : va_D A (w5 ++ ce_X6 G.2.1 (q6, u2) in_X6) := va_D.app (zd_left hD) (hD1.weaken (fun _ q _ h => hFc q.1 h)) (fun i j x y hx hy exy => by
    rcases hD1.2 j y hy with ⟨k, e2, h⟩ | h
    · exact zd_apart hD i k x (y.1, e2) hx h exy
    · have := ((zp_left hP) i x hx).lt
      omega)
  have hP9 : va_P G.1 vwCl (w5 ++ ce_X6 G.2.1 (q6, u2) in_X6) H1 := va_P.app (zk_left hP hD hk1) hP1
  subst hw5
  refine W.widen (k := 600000) (n := 7302250) (Nat.le_of_ble_eq_true rfl) (Nat.le_of_ble_eq_true rfl) ?_
  refine lv_astore_n (lv' := [(2, .ref q6), (1, .ref q5), (0, .ref b)]) hx hb dL_law_15 rfl hl (by decide) rfl (fun ls hl => ?_)
  refine lv_iconst (v := 0) hx hb dL_law_16 (by decide) ?_
  refine lv_istore_n (lv' := [(3, .int 0), (2, .ref q6), (1, .ref q5), (0, .ref b)]) hx hb dL_law_17 rfl hl (by decide) rfl (fun ls hl => ?_)
  exact law_loop C0 G (q5, u1) (q6, u2) hK A hAe hE 4096 in_X5 in_X6 0 (law_ok L xs hL) _ _ hP9 hD9 hS ls (lv_sub hl [3, 2, 1, 0] rfl)
