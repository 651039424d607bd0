abbrev rm_X3_keepIfBetter : Room := { frames := 1, cells := 0, slots := 0, locals := 40 }
set_option maxHeartbeats 4000000 in
set_option maxRecDepth 100000 in
theorem c_X3_keepIfBetter (l : Launch) (G : zG) (a0 : AT_X3) (sz : Nat) (S0 : ST_X3) (p1 : Int32) (out : ST_X3) (hf : f_X3_keepIfBetter S0 p1 = some out) : Met l yX3_keepIfBetter wsX3_keepIfBetter rm_X3_keepIfBetter (PcM G (ce_X3 G.2.1 a0 S0) [.ref a0.1, .int p1] sz) (QWv G (fun u => ce_X3 G.2.1 a0 u) out (va_A (ce_X3 G.2.1 a0 S0) sz)) 0 0 (va_A (ce_X3 G.2.1 a0 S0) sz) := by
  rw [f_X3_keepIfBetter] at hf
  refine Met.ofW (cc := cX3_keepIfBetter) (maxL := 2) (ret := none) (by decide) rfl ?_
  intro p e s m args below meth c s₁ B hml hv
  obtain ⟨hargs, hsz, hP, hK, hD0, hE⟩ := hv
  have hx := B.exec
  have hb := B.bytes
  have hr := B.returns
  have hts := atoms_spec (ws := wsX3_keepIfBetter) B.pre
  have hown : s.vm.findClass RX3 = some m.cls := findClass_of_methodNamed B.named
  have hlocks := B.notSynchronized
  subst hsz
  have hD := hD0.self (sz := s.heap.size)
  generalize hAe : va_A (ce_X3 G.2.1 a0 S0) s.heap.size = A at hD hE ⊢
  have hA : ∀ q : Nat, s.heap.size ≤ q → A q := fun q h => by rw [← hAe]; exact Or.inr h
  have hS : va_S A s.heap s.heap [] := va_S.rf
  have hl := lv_entry ([.ref a0.1, .int p1]) (n := 2) (Nat.le_of_ble_eq_true rfl)
  have hent : entryFrame m args 2 = F0 m 0 ((lg_sl ([.ref a0.1, .int p1]) ++ List.replicate (2 - (lg_sl ([.ref a0.1, .int p1])).length) Slot.unset).toArray) [] := by rw [hargs, lg_entry_eq]
  rw [hent]
  clear hent
  generalize (lg_sl ([.ref a0.1, .int p1]) ++ List.replicate (2 - (lg_sl ([.ref a0.1, .int p1])).length) Slot.unset).toArray = ls at hl ⊢
  have hl : lv_has ls 2 [(0, .ref a0.1), (1, .int p1)] := hl
  have lk0 := hts (Cond.fieldLink RX3 31 "EnginesOnList$Planner" "bestWorth" "I") (List.mem_of_getElem? (i := 1) rfl)
  have lk1 := hts (Cond.fieldLink RX3 15 "EnginesOnList$Planner" "tried" "[I") (List.mem_of_getElem? (i := 2) rfl)
  have lk2 := hts (Cond.fieldLink RX3 18 "EnginesOnList$Planner" "best" "[I") (List.mem_of_getElem? (i := 3) rfl)
  have lk3 := hts (Cond.methodLink RX3 60 arraycopyName) (List.mem_of_getElem? (i := 4) rfl)
  have lk4 := hts (Cond.native arraycopyName) (List.mem_of_getElem? (i := 5) rfl)
  have lk5 := hts (Cond.static arraycopyName) (List.mem_of_getElem? (i := 6) rfl)
  have lk6 := hts (Cond.initialized "java/lang/System") (List.mem_of_getElem? (i := 7) rfl)
  have hinX3 : ∀ w ∈ wsX30, w ∈ wsX3_keepIfBetter := by decide +kernel
  have fin : ∀ (pc : Nat) (u : ST_X3) (H : Heap) (locs : List Loc) (ls : Array Slot), some u = some out → va_P G.1 vwCl (ce_X3 G.2.1 a0 u) H → va_D A (ce_X3 G.2.1 a0 u) → va_S A s.heap H locs → decode cX3_keepIfBetter pc = .ok (.return_, 1) → W p l e (headSpec wsX3_keepIfBetter rm_X3_keepIfBetter).room s m args below meth c H locs 0 0 (MQ below (QWv G (fun u => ce_X3 G.2.1 a0 u) out A) args s 0 0 A) (F0 m pc ls []) := fun pc u H locs ls ho hP hD hS hd => W.vret hx hb hr (fun t ht hW => ⟨⟨u, rfl, Option.some.inj ho, by first | (rw [ht]; exact hP) | (dsimp only; rw [ht]; exact hP), hD⟩, hS.F ht⟩) hS.2.2 hd
  generalize MQ below (QWv G (fun u => ce_X3 G.2.1 a0 u) out A) args s 0 0 A = Q at fin ⊢
  have go : ∀ (H : Heap) (locs : List Loc), va_P G.1 vwCl (ce_X3 G.2.1 a0 S0) H → va_D A (ce_X3 G.2.1 a0 S0) → va_S A s.heap H locs → ∀ (ls : Array Slot), lv_has ls 2 [(0, .ref a0.1), (1, .int p1)] → W p l e (headSpec wsX3_keepIfBetter rm_X3_keepIfBetter).room s m args below meth c H locs 0 0 Q (F0 m 0 ls []) := by
    intro H locs hP hD hS ls hl
    refine lv_iload_n hx hb dX3_keepIfBetter_0 rfl (lv_at hl 1 rfl) ?_
    refine lv_aload_n hx hb dX3_keepIfBetter_1 rfl (lv_at hl 0 rfl) ?_
    refine va_get (D := G.1) (ci := 3) (v := .int S0.2.2.2.1) (C := RX3) (T := TX3) (N := 5) hx hb hts hinX3 hown hK hP 0 rfl rfl 3 (by decide) lk0 (fun _ h9 => h9) rfl dX3_keepIfBetter_2 ?_
    refine lv_icmp_le (tgt := 27) hx hb dX3_keepIfBetter_5 (by decide) (fun c1 => ?_) (fun c1 => ?_)
    · replace hf := ob_pos c1 hf
      exact fin _ _ _ _ _ hf hP hD hS dX3_keepIfBetter_27
    · replace hf := ob_neg c1 hf
      refine lv_aload_n hx hb dX3_keepIfBetter_8 rfl (lv_at hl 0 rfl) ?_
      refine lv_iload_n hx hb dX3_keepIfBetter_9 rfl (lv_at hl 1 rfl) ?_
      refine va_put (D := G.1) (ci := 3) (v := .int p1) (ty := .int) (C := RX3) (T := TX3) (N := 5) hx hb hts hinX3 tyX3 tyX3_ok nmX3 hown hK hP hD hS 0 rfl rfl 3 (by decide) lk0 (fun _ h9 => h9) rfl (by decide +kernel) rfl rfl (Nat.le_of_ble_eq_true rfl) dX3_keepIfBetter_10 (fun H locs hP hD hS => ?_)
      have hP : va_P G.1 vwCl (ce_X3 G.2.1 a0 (S0.1, S0.2.1, S0.2.2.1, p1, S0.2.2.2.2)) H := hP
      have hD : va_D A (ce_X3 G.2.1 a0 (S0.1, S0.2.1, S0.2.2.1, p1, S0.2.2.2.2)) := hD
      refine lv_aload_n hx hb dX3_keepIfBetter_13 rfl (lv_at hl 0 rfl) ?_
      refine va_get (D := G.1) (ci := 3) (v := .ref a0.2.2.1) (C := RX3) (T := TX3) (N := 5) hx hb hts hinX3 hown hK hP 0 rfl rfl 1 (by decide) lk1 (fun _ h9 => h9) rfl dX3_keepIfBetter_14 ?_
      refine lv_iconst (v := 0) hx hb dX3_keepIfBetter_17 (by decide) ?_
      refine lv_aload_n hx hb dX3_keepIfBetter_18 rfl (lv_at hl 0 rfl) ?_
      refine va_get (D := G.1) (ci := 3) (v := .ref a0.2.2.2) (C := RX3) (T := TX3) (N := 5) hx hb hts hinX3 hown hK hP 0 rfl rfl 2 (by decide) lk2 (fun _ h9 => h9) rfl dX3_keepIfBetter_19 ?_
      refine lv_iconst (v := 0) hx hb dX3_keepIfBetter_22 (by decide) ?_
      refine lv_iconst (v := 5) hx hb dX3_keepIfBetter_23 (by decide) ?_
      refine va_copyi hx hb (hml.trans hl.1.symm) hown lk3 lk4 lk5 lk6 hK hP hD hS 2 3 0 0 rfl rfl rfl rfl rfl (sp := 0) (dp := 0) (n := 5) (by decide) (by decide) (by decide) (Nat.le_of_ble_eq_true rfl) (Nat.le_of_ble_eq_true rfl) (fun _ _ => rfl) (Nat.le_of_ble_eq_true rfl) (Nat.le_of_ble_eq_true rfl) dX3_keepIfBetter_24 (fun H locs hP hD hS => ?_)
      have hP : va_P G.1 vwCl (ce_X3 G.2.1 a0 (S0.1, S0.2.1, (va_cpy S0.2.1 S0.2.2.1 0 0 5), p1, S0.2.2.2.2)) H := hP
      have hD : va_D A (ce_X3 G.2.1 a0 (S0.1, S0.2.1, (va_cpy S0.2.1 S0.2.2.1 0 0 5), p1, S0.2.2.2.2)) := hD
      exact fin _ _ _ _ _ hf hP hD hS dX3_keepIfBetter_27
  exact go _ _ hP hD hS _ hl
def rm_X3_extend (fu : Nat) : Room := { frames := fu * 1 + 10, cells := 0, slots := 0, locals := fu * 40 + 400 }
set_option maxHeartbeats 4000000 in
set_option maxRecDepth 100000 in
theorem c_X3_extend : ∀ (fu : Nat) (l : Launch) (G : zG) (a0 : AT_X3) (a1 : AT_X1) (sz : Nat) (S0 : ST_X3) (S1 : ST_X1) (p2 : Int32) (p3 : Int32) (p4 : Int32) (p5 : Int32) (out : ST_X3), f_X3_extend fu S0 S1 p2 p3 p4 p5 = some out → Met l yX3_extend wsX3_extend (rm_X3_extend fu) (PcM G (ce_X3 G.2.1 a0 S0 ++ ce_X1 G.2.1 a1 S1) [.ref a0.1, .ref a1.1, .int p2, .int p3, .int p4, .int p5] sz) (QWv G (fun u => ce_X3 G.2.1 a0 u ++ ce_X1 G.2.1 a1 S1) out (va_A (ce_X3 G.2.1 a0 S0 ++ ce_X1 G.2.1 a1 S1) sz)) 0 0 (va_A (ce_X3 G.2.1 a0 S0 ++ ce_X1 G.2.1 a1 S1) sz) := by
  intro fu
  induction fu with
  | zero => intro l G a0 a1 sz S0 S1 p2 p3 p4 p5 out hf; exact ob_none hf
  | succ fu ihr =>
    intro l G a0 a1 sz S0 S1 p2 p3 p4 p5 out hf
    rw [f_X3_extend] at hf
    refine Met.ofW (cc := cX3_extend) (maxL := 8) (ret := none) (by decide) rfl ?_
    intro p e s m args below meth c s₁ B hml hv
    obtain ⟨hargs, hsz, hP, hK, hD0, hE⟩ := hv
    have hx := B.exec
    have hb := B.bytes
    have hr := B.returns
    have hts := atoms_spec (ws := wsX3_extend) B.pre
    have hown : s.vm.findClass RX3 = some m.cls := findClass_of_methodNamed B.named
    have hlocks := B.notSynchronized
    subst hsz
    have hD := hD0.self (sz := s.heap.size)
    generalize hAe : va_A (ce_X3 G.2.1 a0 S0 ++ ce_X1 G.2.1 a1 S1) s.heap.size = A at hD hE ⊢
    have hA : ∀ q : Nat, s.heap.size ≤ q → A q := fun q h => by rw [← hAe]; exact Or.inr h
    have hS : va_S A s.heap s.heap [] := va_S.rf
    have hl := lv_entry ([.ref a0.1, .ref a1.1, .int p2, .int p3, .int p4, .int p5]) (n := 8) (Nat.le_of_ble_eq_true rfl)
    have hent : entryFrame m args 8 = F0 m 0 ((lg_sl ([.ref a0.1, .ref a1.1, .int p2, .int p3, .int p4, .int p5]) ++ List.replicate (8 - (lg_sl ([.ref a0.1, .ref a1.1, .int p2, .int p3, .int p4, .int p5])).length) Slot.unset).toArray) [] := by rw [hargs, lg_entry_eq]
    rw [hent]
    clear hent
    generalize (lg_sl ([.ref a0.1, .ref a1.1, .int p2, .int p3, .int p4, .int p5]) ++ List.replicate (8 - (lg_sl ([.ref a0.1, .ref a1.1, .int p2, .int p3, .int p4, .int p5])).length) Slot.unset).toArray = ls at hl ⊢
    have hl : lv_has ls 8 [(0, .ref a0.1), (1, .ref a1.1), (2, .int p2), (3, .int p3), (4, .int p4), (5, .int p5)] := hl
    have lk0 := hts (Cond.initialized RX1) (List.mem_of_getElem? (i := 10) rfl)
    have lk1 := hts (Cond.instanceMethod yX1_worth) (List.mem_of_getElem? (i := 9) rfl)
    have lk2 := hts (Cond.selects RX1 yX1_worth yX1_worth) (List.mem_of_getElem? (i := 11) rfl)
    have lk3 := hts (Cond.fieldLink RX3 15 "EnginesOnList$Planner" "tried" "[I") (List.mem_of_getElem? (i := 3) rfl)
    have lk4 := hts (Cond.fieldLink RX3 9 "EnginesOnList$Planner" "newThere" "[I") (List.mem_of_getElem? (i := 8) rfl)
    have lk5 := hts (Cond.fieldLink RX3 31 "EnginesOnList$Planner" "bestWorth" "I") (List.mem_of_getElem? (i := 1) rfl)
    have lk6 := hts (Cond.fieldLink RX3 44 "EnginesOnList$Planner" "mostWorth" "I") (List.mem_of_getElem? (i := 2) rfl)
    have lk7 := hts (Cond.methodLink RX3 55 Lib.Math.abs.name) (List.mem_of_getElem? (i := 4) rfl)
    have lk8 := hts (Cond.static Lib.Math.abs.name) (List.mem_of_getElem? (i := 5) rfl)
    have lk9 := hts (Cond.initialized "java/lang/Math") (List.mem_of_getElem? (i := 6) rfl)
    have lk10 := hts (Cond.code Lib.Math.abs.name Lib.Math.abs.code 1 (some .int)) (List.mem_of_getElem? (i := 7) rfl)
    have hinX3 : ∀ w ∈ wsX30, w ∈ wsX3_extend := by decide +kernel
    have fin : ∀ (pc : Nat) (u : ST_X3) (H : Heap) (locs : List Loc) (ls : Array Slot), some u = some out → va_P G.1 vwCl (ce_X3 G.2.1 a0 u ++ ce_X1 G.2.1 a1 S1) H → va_D A (ce_X3 G.2.1 a0 u ++ ce_X1 G.2.1 a1 S1) → va_S A s.heap H locs → decode cX3_extend pc = .ok (.return_, 1) → W p l e (headSpec wsX3_extend (rm_X3_extend (fu + 1))).room s m args below meth c H locs 0 0 (MQ below (QWv G (fun u => ce_X3 G.2.1 a0 u ++ ce_X1 G.2.1 a1 S1) out A) args s 0 0 A) (F0 m pc ls []) := fun pc u H locs ls ho hP hD hS hd => W.vret hx hb hr (fun t ht hW => ⟨⟨u, rfl, Option.some.inj ho, by first | (rw [ht]; exact hP) | (dsimp only; rw [ht]; exact hP), hD⟩, hS.F ht⟩) hS.2.2 hd
    generalize MQ below (QWv G (fun u => ce_X3 G.2.1 a0 u ++ ce_X1 G.2.1 a1 S1) out A) args s 0 0 A = Q at fin ⊢
    have blk14 : ∀ (S0 : ST_X3) (v5 : Int32), f_X3_extend_b14 S1 (f_X3_extend fu) S0 v5 = some out → ∀ (H : Heap) (locs : List Loc), va_P G.1 vwCl (ce_X3 G.2.1 a0 S0 ++ ce_X1 G.2.1 a1 S1) H → va_D A (ce_X3 G.2.1 a0 S0 ++ ce_X1 G.2.1 a1 S1) → va_S A s.heap H locs → ∀ (ls : Array Slot), lv_has ls 8 [(0, .ref a0.1), (1, .ref a1.1), (5, .int v5)] → W p l e (headSpec wsX3_extend (rm_X3_extend (fu + 1))).room s m args below meth c H locs 0 0 Q (F0 m 14 ls []) := by
      intro S0 v5 hf H locs hP hD hS ls hl
      rw [f_X3_extend_b14] at hf
      refine lv_aload_n hx hb dX3_extend_14 rfl (lv_at hl 0 rfl) ?_
      refine lv_aload_n hx hb dX3_extend_15 rfl (lv_at hl 1 rfl) ?_
      refine lv_iload hx hb dX3_extend_16 (lv_at hl 2 rfl) ?_
      obtain ⟨r1, hr1, hf⟩ := ob_bind hf
      have hPc : va_P G.1 vwCl (ce_X1 G.2.1 a1 S1) H := hP.sub [4, 5, 6, 7, 8, 9] rfl
      have hDc : va_D A (ce_X1 G.2.1 a1 S1) := hD.sub [4, 5, 6, 7, 8, 9] (by decide) rfl
      have hFc := va_free (wc := ce_X1 G.2.1 a1 S1) hD hS hA [4, 5, 6, 7, 8, 9] rfl
      refine zc_ro (va_runVN (As := [.int v5]) (rest := [.ref a0.1]) ⟨hx, hb, hml, hown, hts⟩ (c_X1_worth l G a1 H.size S1 v5 _ hr1) (⟨va_cnB 1 hts gX3_extend_X1_worth_n38 rfl rfl rfl (hE.1 _ nw_50) lk0 (by decide +kernel) ⟨Nat.le_trans (Nat.le_of_ble_eq_true rfl : _ ≤ 10) (Nat.le_add_left _ _), Nat.le_trans (Nat.le_of_ble_eq_true rfl : _ ≤ 400) (Nat.le_add_left _ _)⟩, lk1, lk2⟩) ⟨PcM.blind, va_recv hK hPc (ci := 1) (q0 := 0) rfl rfl, PcM.ok hPc hDc hK hE hS hFc⟩ rfl rfl hl.1 rfl (lv_room (Nat.le_of_ble_eq_true rfl)) dX3_extend_18 ⟨Nat.le_refl _, Nat.le_refl _⟩) hP hD hS hA [4, 5, 6, 7, 8, 9] rfl (fun H locs hP hS => ?_)
      obtain ⟨r2, hr2, hf⟩ := ob_bind hf
      have hPc : va_P G.1 vwCl (ce_X3 G.2.1 a0 S0) H := hP.sub [0, 1, 2, 3] rfl
      have hDc : va_D A (ce_X3 G.2.1 a0 S0) := hD.sub [0, 1, 2, 3] (by decide) rfl
      have hFc := va_free (wc := ce_X3 G.2.1 a0 S0) hD hS hA [0, 1, 2, 3] rfl
      refine zc_wv (cf := (fun u => ce_X3 G.2.1 a0 u)) (ws' := ce_X3 G.2.1 a0 r2 ++ ce_X1 G.2.1 a1 S1) (va_runV (As := [.int r1]) (rest := []) ⟨hx, hb, hml, hown, hts⟩ (c_X3_keepIfBetter l G a0 H.size S0 r1 _ hr2) (cwV 1 hts gX3_extend_X3_keepIfBetter rfl rfl rfl (by decide +kernel) ⟨Nat.le_trans (Nat.le_of_ble_eq_true rfl : _ ≤ 10) (Nat.le_add_left _ _), Nat.le_trans (Nat.le_of_ble_eq_true rfl : _ ≤ 400) (Nat.le_add_left _ _)⟩) ⟨PcM.blind, va_recv hK hPc (ci := 3) (q0 := 0) rfl rfl, PcM.ok hPc hDc hK hE hS hFc⟩ rfl rfl hl.1 rfl (lv_room (Nat.le_of_ble_eq_true rfl)) dX3_extend_21 ⟨Nat.le_refl _, Nat.le_refl _⟩) hP hD hS hA [0, 1, 2, 3] [4, 5, 6, 7, 8, 9] [6, 7, 8, 9, 0, 1, 2, 3, 4, 5] rfl rfl (by decide) (by decide) (by decide) rfl (fun H locs hP hD hS => ?_)
      exact fin _ _ _ _ _ hf hP hD hS dX3_extend_24
    have blk28 : ∀ (fu28 : Nat), ∀ (S0 : ST_X3) (v2 : Int32) (v3 : Int32) (v4 : Int32) (v5 : Int32) (v6 : Int32), f_X3_extend_b28 S1 (f_X3_extend fu) fu28 S0 v2 v3 v4 v5 v6 = some out → ∀ (H : Heap) (locs : List Loc), va_P G.1 vwCl (ce_X3 G.2.1 a0 S0 ++ ce_X1 G.2.1 a1 S1) H → va_D A (ce_X3 G.2.1 a0 S0 ++ ce_X1 G.2.1 a1 S1) → va_S A s.heap H locs → ∀ (ls : Array Slot), lv_has ls 8 [(0, .ref a0.1), (1, .ref a1.1), (2, .int v2), (3, .int v3), (4, .int v4), (5, .int v5), (6, .int v6)] → W p l e (headSpec wsX3_extend (rm_X3_extend (fu + 1))).room s m args below meth c H locs 0 0 Q (F0 m 28 ls []) := by
      intro fu28
      induction fu28 with
      | zero => intro S0 v2 v3 v4 v5 v6 hf; exact ob_none hf
      | succ fu28 ih28 =>
        intro S0 v2 v3 v4 v5 v6 hf H locs hP hD hS ls hl
        rw [f_X3_extend_b28] at hf
        have blk112 : ∀ (S0 : ST_X3) (v2 : Int32) (v3 : Int32) (v4 : Int32) (v5 : Int32) (v6 : Int32), f_X3_extend_b112 S1 (f_X3_extend fu) (f_X3_extend_b28 S1 (f_X3_extend fu) fu28) S0 v2 v3 v4 v5 v6 = some out → ∀ (H : Heap) (locs : List Loc), va_P G.1 vwCl (ce_X3 G.2.1 a0 S0 ++ ce_X1 G.2.1 a1 S1) H → va_D A (ce_X3 G.2.1 a0 S0 ++ ce_X1 G.2.1 a1 S1) → va_S A s.heap H locs → ∀ (ls : Array Slot), lv_has ls 8 [(0, .ref a0.1), (1, .ref a1.1), (2, .int v2), (3, .int v3), (4, .int v4), (5, .int v5), (6, .int v6)] → W p l e (headSpec wsX3_extend (rm_X3_extend (fu + 1))).room s m args below meth c H locs 0 0 Q (F0 m 112 ls []) := by
          intro S0 v2 v3 v4 v5 v6 hf H locs hP hD hS ls hl
          rw [f_X3_extend_b112] at hf
          refine lv_iinc (v := v6 + 1) (lv' := [(6, .int (v6 + 1)), (0, .ref a0.1), (1, .ref a1.1), (2, .int v2), (3, .int v3), (4, .int v4), (5, .int v5)]) hx hb dX3_extend_112 hl (k := 6) rfl rfl (by decide) rfl (fun ls hl => ?_)
          refine lv_goto (tgt := 28) hx hb dX3_extend_115 (by decide) ?_
          exact ih28 _ _ _ _ _ _ hf _ _ hP hD hS _ (lv_sub hl [1, 2, 3, 4, 5, 6, 0] rfl)
        have blk67 : ∀ (S0 : ST_X3) (v2 : Int32) (v3 : Int32) (v4 : Int32) (v5 : Int32) (v6 : Int32) (w0 : Int32), f_X3_extend_b67 S1 (f_X3_extend fu) (f_X3_extend_b28 S1 (f_X3_extend fu) fu28) S0 v2 v3 v4 v5 v6 w0 = some out → ∀ (H : Heap) (locs : List Loc), va_P G.1 vwCl (ce_X3 G.2.1 a0 S0 ++ ce_X1 G.2.1 a1 S1) H → va_D A (ce_X3 G.2.1 a0 S0 ++ ce_X1 G.2.1 a1 S1) → va_S A s.heap H locs → ∀ (ls : Array Slot), lv_has ls 8 [(0, .ref a0.1), (1, .ref a1.1), (2, .int v2), (3, .int v3), (4, .int v4), (5, .int v5), (6, .int v6)] → W p l e (headSpec wsX3_extend (rm_X3_extend (fu + 1))).room s m args below meth c H locs 0 0 Q (F0 m 67 ls [.int w0]) := by
          intro S0 v2 v3 v4 v5 v6 w0 hf H locs hP hD hS ls hl
          rw [f_X3_extend_b67] at hf
          refine lv_istore (lv' := [(7, .int w0), (0, .ref a0.1), (1, .ref a1.1), (2, .int v2), (3, .int v3), (4, .int v4), (5, .int v5), (6, .int v6)]) hx hb dX3_extend_67 hl (by decide) rfl (fun ls hl => ?_)
          refine lv_iload hx hb dX3_extend_69 (lv_at hl 0 rfl) ?_
          refine lv_iload hx hb dX3_extend_71 (lv_at hl 5 rfl) ?_
          refine lv_icmp_gt (tgt := 112) hx hb dX3_extend_73 (by decide) (fun c3 => ?_) (fun c3 => ?_)
          · replace hf := ob_pos c3 hf
            exact blk112 _ _ _ _ _ _ hf _ _ hP hD hS _ (lv_sub hl [1, 2, 3, 4, 5, 6, 7] rfl)
          · replace hf := ob_neg c3 hf
            refine lv_aload_n hx hb dX3_extend_76 rfl (lv_at hl 1 rfl) ?_
            refine va_get (D := G.1) (ci := 3) (v := .ref a0.2.2.1) (C := RX3) (T := TX3) (N := 5) hx hb hts hinX3 hown hK hP 0 rfl rfl 1 (by decide) lk3 (fun _ h9 => h9) rfl dX3_extend_77 ?_
            refine lv_iload_n hx hb dX3_extend_80 rfl (lv_at hl 4 rfl) ?_
            refine lv_iload hx hb dX3_extend_81 (lv_at hl 7 rfl) ?_
            obtain ⟨hg4, hf⟩ := ob_guard hf
            refine va_iast hx hb hK hP hD hS 2 0 rfl rfl hg4 dX3_extend_83 (fun H locs hP hD hS => ?_)
            have hP : va_P G.1 vwCl (ce_X3 G.2.1 a0 (S0.1, (upd S0.2.1 (v3.toNatClampNeg) v6), S0.2.2.1, S0.2.2.2.1, S0.2.2.2.2) ++ ce_X1 G.2.1 a1 S1) H := hP
            have hD : va_D A (ce_X3 G.2.1 a0 (S0.1, (upd S0.2.1 (v3.toNatClampNeg) v6), S0.2.2.1, S0.2.2.2.1, S0.2.2.2.2) ++ ce_X1 G.2.1 a1 S1) := hD
            refine lv_aload_n hx hb dX3_extend_84 rfl (lv_at hl 1 rfl) ?_
            refine lv_aload_n hx hb dX3_extend_85 rfl (lv_at hl 2 rfl) ?_
            refine lv_iload_n hx hb dX3_extend_86 rfl (lv_at hl 3 rfl) ?_
            refine lv_iload_n hx hb dX3_extend_87 rfl (lv_at hl 4 rfl) ?_
            refine lv_iconst (v := 1) hx hb dX3_extend_88 (by decide) ?_
            refine lv_iadd hx hb dX3_extend_89 ?_
            refine lv_iload hx hb dX3_extend_90 (lv_at hl 5 rfl) ?_
            refine lv_iload hx hb dX3_extend_92 (lv_at hl 0 rfl) ?_
            refine lv_isub hx hb dX3_extend_94 ?_
            refine lv_iload hx hb dX3_extend_95 (lv_at hl 6 rfl) ?_
            refine lv_aload_n hx hb dX3_extend_97 rfl (lv_at hl 1 rfl) ?_
            refine va_get (D := G.1) (ci := 3) (v := .ref a0.2.1) (C := RX3) (T := TX3) (N := 5) hx hb hts hinX3 hown hK hP 0 rfl rfl 0 (by decide) lk4 (fun _ h9 => h9) rfl dX3_extend_98 ?_
            refine lv_iload_n hx hb dX3_extend_101 rfl (lv_at hl 4 rfl) ?_
            refine lv_iconst (v := 5) hx hb dX3_extend_102 (by decide) ?_
            refine lv_imul hx hb dX3_extend_103 ?_
            refine lv_iload hx hb dX3_extend_104 (lv_at hl 7 rfl) ?_
            refine lv_iadd hx hb dX3_extend_106 ?_
            obtain ⟨hg5, hf⟩ := ob_guard hf
            refine va_iald hx hb hK hP 1 0 rfl rfl hg5 dX3_extend_107 ?_
            refine lv_ior hx hb dX3_extend_108 ?_
            obtain ⟨r6, hr6, hf⟩ := ob_bind hf
            have hFc := va_free (wc := ce_X3 G.2.1 a0 (S0.1, (upd S0.2.1 (v3.toNatClampNeg) v6), S0.2.2.1, S0.2.2.2.1, S0.2.2.2.2) ++ ce_X1 G.2.1 a1 S1) hD hS hA [0, 1, 2, 3, 4, 5, 6, 7, 8, 9] rfl
            refine zc_wv (cf := (fun u => ce_X3 G.2.1 a0 u ++ ce_X1 G.2.1 a1 S1)) (ws' := ce_X3 G.2.1 a0 r6 ++ ce_X1 G.2.1 a1 S1) (va_runS (As := [.ref a0.1, .ref a1.1, .int v2, .int (v3 + 1), .int (v4 - w0), .int (v5 ||| (S0.1 ((v3 * 5) + v6).toNatClampNeg))]) (rest := []) ⟨hx, hb, hml, hown, hts⟩ (ihr l G a0 a1 H.size (S0.1, (upd S0.2.1 (v3.toNatClampNeg) v6), S0.2.2.1, S0.2.2.2.1, S0.2.2.2.2) S1 v2 (v3 + 1) (v4 - w0) (v5 ||| (S0.1 ((v3 * 5) + v6).toNatClampNeg)) _ hr6) (va_cwS 6 hts gX3_extend_X3_extend rfl rfl rfl (by decide +kernel) ⟨by show fu * 1 + 10 + 1 ≤ (fu + 1) * 1 + 10; omega, by show 8 + (8 + 11) + (fu * 40 + 400) ≤ (fu + 1) * 40 + 400; omega⟩) ⟨PcM.blind, PcM.ok hP hD hK hE hS hFc⟩ rfl rfl hl.1 rfl (lv_room (Nat.le_of_ble_eq_true rfl)) dX3_extend_109 ⟨Nat.le_refl _, Nat.le_refl _⟩) hP hD hS hA [0, 1, 2, 3, 4, 5, 6, 7, 8, 9] [] [0, 1, 2, 3, 4, 5, 6, 7, 8, 9] rfl rfl (by decide) (by decide) (by decide) rfl (fun H locs hP hD hS => ?_)
            exact blk112 _ _ _ _ _ _ hf _ _ hP hD hS _ (lv_sub hl [1, 2, 3, 4, 5, 6, 7] rfl)
        refine lv_iload hx hb dX3_extend_28 (lv_at hl 6 rfl) ?_
        refine lv_iconst (v := 5) hx hb dX3_extend_30 (by decide) ?_
        refine lv_icmp_ge (tgt := 118) hx hb dX3_extend_31 (by decide) (fun c7 => ?_) (fun c7 => ?_)
        · replace hf := ob_pos c7 hf
          exact fin _ _ _ _ _ hf hP hD hS dX3_extend_118
        · replace hf := ob_neg c7 hf
          refine lv_aload_n hx hb dX3_extend_34 rfl (lv_at hl 0 rfl) ?_
          refine va_get (D := G.1) (ci := 3) (v := .int S0.2.2.2.1) (C := RX3) (T := TX3) (N := 5) hx hb hts hinX3 hown hK hP 0 rfl rfl 3 (by decide) lk5 (fun _ h9 => h9) rfl dX3_extend_35 ?_
          refine lv_aload_n hx hb dX3_extend_38 rfl (lv_at hl 0 rfl) ?_
          refine va_get (D := G.1) (ci := 3) (v := .int S0.2.2.2.2) (C := RX3) (T := TX3) (N := 5) hx hb hts hinX3 hown hK hP 0 rfl rfl 4 (by decide) lk6 (fun _ h9 => h9) rfl dX3_extend_39 ?_
          refine lv_icmp_ge (tgt := 118) hx hb dX3_extend_42 (by decide) (fun c8 => ?_) (fun c8 => ?_)
          · replace hf := ob_pos c8 hf
            exact fin _ _ _ _ _ hf hP hD hS dX3_extend_118
          · replace hf := ob_neg c8 hf
            refine lv_iload_n hx hb dX3_extend_45 rfl (lv_at hl 3 rfl) ?_
            refine lv_if_ne (tgt := 53) hx hb dX3_extend_46 (by decide) (fun c9 => ?_) (fun c9 => ?_)
            · replace hf := ob_neg c9 hf
              refine lv_iload hx hb dX3_extend_53 (lv_at hl 6 rfl) ?_
              refine lv_aload_n hx hb dX3_extend_55 rfl (lv_at hl 0 rfl) ?_
              refine va_get (D := G.1) (ci := 3) (v := .ref a0.2.2.1) (C := RX3) (T := TX3) (N := 5) hx hb hts hinX3 hown hK hP 0 rfl rfl 1 (by decide) lk3 (fun _ h9 => h9) rfl dX3_extend_56 ?_
              refine lv_iload_n hx hb dX3_extend_59 rfl (lv_at hl 3 rfl) ?_
              refine lv_iconst (v := 1) hx hb dX3_extend_60 (by decide) ?_
              refine lv_isub hx hb dX3_extend_61 ?_
              obtain ⟨hg10, hf⟩ := ob_guard hf
              refine va_iald hx hb hK hP 2 0 rfl rfl hg10 dX3_extend_62 ?_
              refine lv_isub hx hb dX3_extend_63 ?_
              refine va_mabs hx hb (hml.trans hl.1.symm) hown lk7 lk8 lk9 lk10 (Nat.le_of_ble_eq_true rfl) (Nat.le_of_ble_eq_true rfl) (Nat.zero_le _) (Nat.zero_le _) dX3_extend_64 ?_
              exact blk67 _ _ _ _ _ _ _ hf _ _ hP hD hS _ (lv_sub hl [0, 1, 2, 3, 4, 5, 6] rfl)
            · replace hf := ob_pos c9 hf
              refine lv_iconst (v := 0) hx hb dX3_extend_49 (by decide) ?_
              refine lv_goto (tgt := 67) hx hb dX3_extend_50 (by decide) ?_
              exact blk67 _ _ _ _ _ _ _ hf _ _ hP hD hS _ (lv_sub hl [0, 1, 2, 3, 4, 5, 6] rfl)
    have go : ∀ (H : Heap) (locs : List Loc), va_P G.1 vwCl (ce_X3 G.2.1 a0 S0 ++ ce_X1 G.2.1 a1 S1) H → va_D A (ce_X3 G.2.1 a0 S0 ++ ce_X1 G.2.1 a1 S1) → va_S A s.heap H locs → ∀ (ls : Array Slot), lv_has ls 8 [(0, .ref a0.1), (1, .ref a1.1), (2, .int p2), (3, .int p3), (4, .int p4), (5, .int p5)] → W p l e (headSpec wsX3_extend (rm_X3_extend (fu + 1))).room s m args below meth c H locs 0 0 Q (F0 m 0 ls []) := by
      intro H locs hP hD hS ls hl
      refine lv_iload_n hx hb dX3_extend_0 rfl (lv_at hl 3 rfl) ?_
      refine lv_iload_n hx hb dX3_extend_1 rfl (lv_at hl 2 rfl) ?_
      refine lv_icmp_ge (tgt := 14) hx hb dX3_extend_2 (by decide) (fun c11 => ?_) (fun c11 => ?_)
      · replace hf := ob_pos c11 hf
        exact blk14 _ _ hf _ _ hP hD hS _ (lv_sub hl [0, 1, 5] rfl)
      · replace hf := ob_neg c11 hf
        refine lv_iload_n hx hb dX3_extend_5 rfl (lv_at hl 3 rfl) ?_
        refine lv_iconst (v := 5) hx hb dX3_extend_6 (by decide) ?_
        refine lv_icmp_ge (tgt := 14) hx hb dX3_extend_7 (by decide) (fun c12 => ?_) (fun c12 => ?_)
        · replace hf := ob_pos c12 hf
          exact blk14 _ _ hf _ _ hP hD hS _ (lv_sub hl [0, 1, 5] rfl)
        · replace hf := ob_neg c12 hf
          refine lv_iload_n hx hb dX3_extend_10 rfl (lv_at hl 3 rfl) ?_
          refine lv_if_ge (tgt := 25) hx hb dX3_extend_11 (by decide) (fun c13 => ?_) (fun c13 => ?_)
          · replace hf := ob_pos c13 hf
            refine lv_iconst (v := 0) hx hb dX3_extend_25 (by decide) ?_
            refine lv_istore (lv' := [(6, .int 0), (0, .ref a0.1), (1, .ref a1.1), (2, .int p2), (3, .int p3), (4, .int p4), (5, .int p5)]) hx hb dX3_extend_26 hl (by decide) rfl (fun ls hl => ?_)
            exact blk28 4096 _ _ _ _ _ _ hf _ _ hP hD hS _ (lv_sub hl [1, 2, 3, 4, 5, 6, 0] rfl)
          · replace hf := ob_neg c13 hf
            exact blk14 _ _ hf _ _ hP hD hS _ (lv_sub hl [0, 1, 5] rfl)
    exact go _ _ hP hD hS _ hl
abbrev rm_X3_search : Room := { frames := 19, cells := 0, slots := 0, locals := 747 }
set_option maxHeartbeats 4000000 in
set_option maxRecDepth 100000 in
theorem c_X3_search (l : Launch) (G : zG) (a0 : AT_X3) (a1 : AT_X4) (sz : Nat) (S0 : ST_X3) (S1 : ST_X4) (p2 : Int32) (p3 : Int32) (out : ST_X3) (hf : f_X3_search S0 S1 p2 p3 = some out) : Met l yX3_search wsX3_search rm_X3_search (PcM G (ce_X3 G.2.1 a0 S0 ++ ce_X4 G.2.1 a1 S1) [.ref a0.1, .ref a1.1, .int p2, .int p3] sz) (QWv G (fun u => ce_X3 G.2.1 a0 u ++ ce_X4 G.2.1 a1 S1) out (va_A (ce_X3 G.2.1 a0 S0 ++ ce_X4 G.2.1 a1 S1) sz)) 0 0 (va_A (ce_X3 G.2.1 a0 S0 ++ ce_X4 G.2.1 a1 S1) sz) := by
  rw [f_X3_search] at hf
  refine Met.ofW (cc := cX3_search) (maxL := 6) (ret := none) (by decide) rfl ?_
  intro p e s m args below meth c s₁ B hml hv
  obtain ⟨hargs, hsz, hP, hK, hD0, hE⟩ := hv
  have hx := B.exec
  have hb := B.bytes
  have hr := B.returns
  have hts := atoms_spec (ws := wsX3_search) B.pre
  have hown : s.vm.findClass RX3 = some m.cls := findClass_of_methodNamed B.named
  have hlocks := B.notSynchronized
  subst hsz
  have hD := hD0.self (sz := s.heap.size)
  generalize hAe : va_A (ce_X3 G.2.1 a0 S0 ++ ce_X4 G.2.1 a1 S1) s.heap.size = A at hD hE ⊢
  have hA : ∀ q : Nat, s.heap.size ≤ q → A q := fun q h => by rw [← hAe]; exact Or.inr h
  have hS : va_S A s.heap s.heap [] := va_S.rf
  have hl := lv_entry ([.ref a0.1, .ref a1.1, .int p2, .int p3]) (n := 6) (Nat.le_of_ble_eq_true rfl)
  have hent : entryFrame m args 6 = F0 m 0 ((lg_sl ([.ref a0.1, .ref a1.1, .int p2, .int p3]) ++ List.replicate (6 - (lg_sl ([.ref a0.1, .ref a1.1, .int p2, .int p3])).length) Slot.unset).toArray) [] := by rw [hargs, lg_entry_eq]
  rw [hent]
  clear hent
  generalize (lg_sl ([.ref a0.1, .ref a1.1, .int p2, .int p3]) ++ List.replicate (6 - (lg_sl ([.ref a0.1, .ref a1.1, .int p2, .int p3])).length) Slot.unset).toArray = ls at hl ⊢
  have hl : lv_has ls 6 [(0, .ref a0.1), (1, .ref a1.1), (2, .int p2), (3, .int p3)] := hl
  have lk0 := hts (Cond.fieldLink RX3 31 "EnginesOnList$Planner" "bestWorth" "I") (List.mem_of_getElem? (i := 2) rfl)
  have lk1 := va_Nw.use (A := args) rfl (hE.1 _ nw_13)
  have lk2 := hts (Cond.initialized RX1) (List.mem_of_getElem? (i := 10) rfl)
  have lk3 := hts (Cond.instanceMethod yX1_worth) (List.mem_of_getElem? (i := 50) rfl)
  have lk4 := hts (Cond.selects RX1 yX1_worth yX1_worth) (List.mem_of_getElem? (i := 51) rfl)
  have lk5 := hts (Cond.fieldLink RX3 44 "EnginesOnList$Planner" "mostWorth" "I") (List.mem_of_getElem? (i := 3) rfl)
  have lk6 := hts (Cond.fieldLink RX3 9 "EnginesOnList$Planner" "newThere" "[I") (List.mem_of_getElem? (i := 1) rfl)
  have lk7 := va_Nw.use (A := args) rfl (hE.1 _ nw_16)
  have lk8 := hts (Cond.initialized RX4) (List.mem_of_getElem? (i := 5) rfl)
  have lk9 := hts (Cond.instanceMethod yX4_newAt) (List.mem_of_getElem? (i := 4) rfl)
  have lk10 := hts (Cond.selects RX4 yX4_newAt yX4_newAt) (List.mem_of_getElem? (i := 6) rfl)
  have hinX3 : ∀ w ∈ wsX30, w ∈ wsX3_search := by decide +kernel
  have hinX4 : ∀ w ∈ wsX40, w ∈ wsX3_search := by decide +kernel
  have fin : ∀ (pc : Nat) (u : ST_X3) (H : Heap) (locs : List Loc) (ls : Array Slot), some u = some out → va_P G.1 vwCl (ce_X3 G.2.1 a0 u ++ ce_X4 G.2.1 a1 S1) H → va_D A (ce_X3 G.2.1 a0 u ++ ce_X4 G.2.1 a1 S1) → va_S A s.heap H locs → decode cX3_search pc = .ok (.return_, 1) → W p l e (headSpec wsX3_search rm_X3_search).room s m args below meth c H locs 0 0 (MQ below (QWv G (fun u => ce_X3 G.2.1 a0 u ++ ce_X4 G.2.1 a1 S1) out A) args s 0 0 A) (F0 m pc ls []) := fun pc u H locs ls ho hP hD hS hd => W.vret hx hb hr (fun t ht hW => ⟨⟨u, rfl, Option.some.inj ho, by first | (rw [ht]; exact hP) | (dsimp only; rw [ht]; exact hP), hD⟩, hS.F ht⟩) hS.2.2 hd
  generalize MQ below (QWv G (fun u => ce_X3 G.2.1 a0 u ++ ce_X4 G.2.1 a1 S1) out A) args s 0 0 A = Q at fin ⊢
  have blk66 : ∀ (S0 : ST_X3) (v2 : Int32) (v3 : Int32) (v4 : Int32), f_X3_search_b66 S1 S0 v2 v3 v4 = some out → ∀ (H : Heap) (locs : List Loc), va_P G.1 vwCl (ce_X3 G.2.1 a0 S0 ++ ce_X4 G.2.1 a1 S1) H → va_D A (ce_X3 G.2.1 a0 S0 ++ ce_X4 G.2.1 a1 S1) → va_S A s.heap H locs → ∀ (ls : Array Slot), lv_has ls 6 [(0, .ref a0.1), (1, .ref a1.1), (2, .int v2), (3, .int v3), (4, .int v4)] → W p l e (headSpec wsX3_search rm_X3_search).room s m args below meth c H locs 0 0 Q (F0 m 66 ls []) := by
    intro S0 v2 v3 v4 hf H locs hP hD hS ls hl
    rw [f_X3_search_b66] at hf
    refine lv_aload_n hx hb dX3_search_66 rfl (lv_at hl 0 rfl) ?_
    refine lv_iconst (v := (-1)) hx hb dX3_search_67 (by decide) ?_
    refine va_put (D := G.1) (ci := 3) (v := .int (-1)) (ty := .int) (C := RX3) (T := TX3) (N := 5) hx hb hts hinX3 tyX3 tyX3_ok nmX3 hown hK hP hD hS 0 rfl rfl 3 (by decide) lk0 (fun _ h9 => h9) rfl (by decide +kernel) rfl rfl (Nat.le_of_ble_eq_true rfl) dX3_search_68 (fun H locs hP hD hS => ?_)
    have hP : va_P G.1 vwCl (ce_X3 G.2.1 a0 (S0.1, S0.2.1, S0.2.2.1, (-1), S0.2.2.2.2) ++ ce_X4 G.2.1 a1 S1) H := hP
    have hD : va_D A (ce_X3 G.2.1 a0 (S0.1, S0.2.1, S0.2.2.1, (-1), S0.2.2.2.2) ++ ce_X4 G.2.1 a1 S1) := hD
    refine lv_aload_n hx hb dX3_search_71 rfl (lv_at hl 0 rfl) ?_
    refine lv_aload_n hx hb dX3_search_72 rfl (lv_at hl 1 rfl) ?_
    refine va_getN (D := G.1) (ci := 4) (v := .ref a1.2.1.1) (C := RX4) (T := TX4) (N := 3) hx hb hts hinX4 hown hK hP 4 rfl rfl 0 (by decide) lk1 (fun _ h9 => h9) rfl dX3_search_73 ?_
    refine lv_iload hx hb dX3_search_76 (lv_at hl 4 rfl) ?_
    obtain ⟨r1, hr1, hf⟩ := ob_bind hf
    have hPc : va_P G.1 vwCl (ce_X1 G.2.1 a1.2.1 S1.1) H := hP.sub [5, 6, 7, 8, 9, 10] rfl
    have hDc : va_D A (ce_X1 G.2.1 a1.2.1 S1.1) := hD.sub [5, 6, 7, 8, 9, 10] (by decide) rfl
    have hFc := va_free (wc := ce_X1 G.2.1 a1.2.1 S1.1) hD hS hA [5, 6, 7, 8, 9, 10] rfl
    refine zc_ro (va_runVN (As := [.int v4]) (rest := [.ref a0.1]) ⟨hx, hb, hml, hown, hts⟩ (c_X1_worth l G a1.2.1 H.size S1.1 v4 _ hr1) (⟨va_cnB 1 hts gX3_search_X1_worth_n38 rfl rfl rfl (hE.1 _ nw_50) lk2 (by decide +kernel) ⟨Nat.le_of_ble_eq_true rfl, Nat.le_of_ble_eq_true rfl⟩, lk3, lk4⟩) ⟨PcM.blind, va_recv hK hPc (ci := 1) (q0 := 0) rfl rfl, PcM.ok hPc hDc hK hE hS hFc⟩ rfl rfl hl.1 rfl (lv_room (Nat.le_of_ble_eq_true rfl)) dX3_search_78 ⟨Nat.le_refl _, Nat.le_refl _⟩) hP hD hS hA [5, 6, 7, 8, 9, 10] rfl (fun H locs hP hS => ?_)
    refine va_put (D := G.1) (ci := 3) (v := .int r1) (ty := .int) (C := RX3) (T := TX3) (N := 5) hx hb hts hinX3 tyX3 tyX3_ok nmX3 hown hK hP hD hS 0 rfl rfl 4 (by decide) lk5 (fun _ h9 => h9) rfl (by decide +kernel) rfl rfl (Nat.le_of_ble_eq_true rfl) dX3_search_81 (fun H locs hP hD hS => ?_)
    have hP : va_P G.1 vwCl (ce_X3 G.2.1 a0 (S0.1, S0.2.1, S0.2.2.1, (-1), r1) ++ ce_X4 G.2.1 a1 S1) H := hP
    have hD : va_D A (ce_X3 G.2.1 a0 (S0.1, S0.2.1, S0.2.2.1, (-1), r1) ++ ce_X4 G.2.1 a1 S1) := hD
    refine lv_aload_n hx hb dX3_search_84 rfl (lv_at hl 0 rfl) ?_
    refine lv_aload_n hx hb dX3_search_85 rfl (lv_at hl 1 rfl) ?_
    refine va_getN (D := G.1) (ci := 4) (v := .ref a1.2.1.1) (C := RX4) (T := TX4) (N := 3) hx hb hts hinX4 hown hK hP 4 rfl rfl 0 (by decide) lk1 (fun _ h9 => h9) rfl dX3_search_86 ?_
    refine lv_iload_n hx hb dX3_search_89 rfl (lv_at hl 2 rfl) ?_
    refine lv_iconst (v := 0) hx hb dX3_search_90 (by decide) ?_
    refine lv_iload_n hx hb dX3_search_91 rfl (lv_at hl 3 rfl) ?_
    refine lv_iconst (v := 0) hx hb dX3_search_92 (by decide) ?_
    obtain ⟨r2, hr2, hf⟩ := ob_bind hf
    have hPc : va_P G.1 vwCl (ce_X3 G.2.1 a0 (S0.1, S0.2.1, S0.2.2.1, (-1), r1) ++ ce_X1 G.2.1 a1.2.1 S1.1) H := hP.sub [0, 1, 2, 3, 5, 6, 7, 8, 9, 10] rfl
    have hDc : va_D A (ce_X3 G.2.1 a0 (S0.1, S0.2.1, S0.2.2.1, (-1), r1) ++ ce_X1 G.2.1 a1.2.1 S1.1) := hD.sub [0, 1, 2, 3, 5, 6, 7, 8, 9, 10] (by decide) rfl
    have hFc := va_free (wc := ce_X3 G.2.1 a0 (S0.1, S0.2.1, S0.2.2.1, (-1), r1) ++ ce_X1 G.2.1 a1.2.1 S1.1) hD hS hA [0, 1, 2, 3, 5, 6, 7, 8, 9, 10] rfl
    refine zc_wv (cf := (fun u => ce_X3 G.2.1 a0 u ++ ce_X1 G.2.1 a1.2.1 S1.1)) (ws' := ce_X3 G.2.1 a0 r2 ++ ce_X4 G.2.1 a1 S1) (va_runS (As := [.ref a0.1, .ref a1.2.1.1, .int v2, .int 0, .int v3, .int 0]) (rest := []) ⟨hx, hb, hml, hown, hts⟩ (c_X3_extend 8 l G a0 a1.2.1 H.size (S0.1, S0.2.1, S0.2.2.1, (-1), r1) S1.1 v2 0 v3 0 _ hr2) (va_cwS 6 hts gX3_search_X3_extend rfl rfl rfl (by decide +kernel) ⟨Nat.le_of_ble_eq_true rfl, Nat.le_of_ble_eq_true rfl⟩) ⟨PcM.blind, PcM.ok hPc hDc hK hE hS hFc⟩ rfl rfl hl.1 rfl (lv_room (Nat.le_of_ble_eq_true rfl)) dX3_search_93 ⟨Nat.le_refl _, Nat.le_refl _⟩) hP hD hS hA [0, 1, 2, 3, 5, 6, 7, 8, 9, 10] [4, 11, 12, 13, 14, 15] [6, 7, 8, 9, 0, 10, 11, 12, 13, 14, 15, 1, 2, 3, 4, 5] rfl rfl (by decide) (by decide) (by decide) rfl (fun H locs hP hD hS => ?_)
    exact fin _ _ _ _ _ hf hP hD hS dX3_search_96
  have blk6 : ∀ (fu6 : Nat), ∀ (S0 : ST_X3) (v2 : Int32) (v3 : Int32) (v4 : Int32) (v5 : Int32), f_X3_search_b6 S1 fu6 S0 v2 v3 v4 v5 = some out → ∀ (H : Heap) (locs : List Loc), va_P G.1 vwCl (ce_X3 G.2.1 a0 S0 ++ ce_X4 G.2.1 a1 S1) H → va_D A (ce_X3 G.2.1 a0 S0 ++ ce_X4 G.2.1 a1 S1) → va_S A s.heap H locs → ∀ (ls : Array Slot), lv_has ls 6 [(0, .ref a0.1), (1, .ref a1.1), (2, .int v2), (3, .int v3), (4, .int v4), (5, .int v5)] → W p l e (headSpec wsX3_search rm_X3_search).room s m args below meth c H locs 0 0 Q (F0 m 6 ls []) := by
    intro fu6
    induction fu6 with
    | zero => intro S0 v2 v3 v4 v5 hf; exact ob_none hf
    | succ fu6 ih6 =>
      intro S0 v2 v3 v4 v5 hf H locs hP hD hS ls hl
      rw [f_X3_search_b6] at hf
      refine lv_iload hx hb dX3_search_6 (lv_at hl 5 rfl) ?_
      refine lv_iload_n hx hb dX3_search_8 rfl (lv_at hl 2 rfl) ?_
      refine lv_iconst (v := 5) hx hb dX3_search_9 (by decide) ?_
      refine lv_imul hx hb dX3_search_10 ?_
      refine lv_icmp_ge (tgt := 66) hx hb dX3_search_11 (by decide) (fun c3 => ?_) (fun c3 => ?_)
      · replace hf := ob_pos c3 hf
        exact blk66 _ _ _ _ hf _ _ hP hD hS _ (lv_sub hl [0, 1, 2, 3, 4] rfl)
      · replace hf := ob_neg c3 hf
        refine lv_iload hx hb dX3_search_14 (lv_at hl 5 rfl) ?_
        refine lv_aload_n hx hb dX3_search_16 rfl (lv_at hl 0 rfl) ?_
        refine va_get (D := G.1) (ci := 3) (v := .ref a0.2.1) (C := RX3) (T := TX3) (N := 5) hx hb hts hinX3 hown hK hP 0 rfl rfl 0 (by decide) lk6 (fun _ h9 => h9) rfl dX3_search_17 ?_
        refine va_alen hx hb hK hP 1 0 rfl rfl (v := 25) rfl dX3_search_20 ?_
        refine lv_icmp_ge (tgt := 66) hx hb dX3_search_21 (by decide) (fun c4 => ?_) (fun c4 => ?_)
        · replace hf := ob_pos c4 hf
          exact blk66 _ _ _ _ hf _ _ hP hD hS _ (lv_sub hl [0, 1, 2, 3, 4] rfl)
        · replace hf := ob_neg c4 hf
          refine lv_aload_n hx hb dX3_search_24 rfl (lv_at hl 0 rfl) ?_
          refine va_get (D := G.1) (ci := 3) (v := .ref a0.2.1) (C := RX3) (T := TX3) (N := 5) hx hb hts hinX3 hown hK hP 0 rfl rfl 0 (by decide) lk6 (fun _ h9 => h9) rfl dX3_search_25 ?_
          refine lv_iload hx hb dX3_search_28 (lv_at hl 5 rfl) ?_
          refine lv_aload_n hx hb dX3_search_30 rfl (lv_at hl 1 rfl) ?_
          refine lv_iload hx hb dX3_search_31 (lv_at hl 5 rfl) ?_
          refine lv_iconst (v := 5) hx hb dX3_search_33 (by decide) ?_
          refine lv_irem hx hb dX3_search_34 (by decide) ?_
          refine lv_aload_n hx hb dX3_search_35 rfl (lv_at hl 1 rfl) ?_
          refine va_getN (D := G.1) (ci := 4) (v := .int S1.2.2) (C := RX4) (T := TX4) (N := 3) hx hb hts hinX4 hown hK hP 4 rfl rfl 2 (by decide) lk7 (fun _ h9 => h9) rfl dX3_search_36 ?_
          refine lv_iload hx hb dX3_search_39 (lv_at hl 5 rfl) ?_
          refine lv_iconst (v := 5) hx hb dX3_search_41 (by decide) ?_
          refine lv_idiv hx hb dX3_search_42 (by decide) ?_
          refine lv_iadd hx hb dX3_search_43 ?_
          obtain ⟨r5, hr5, hf⟩ := ob_bind hf
          have hPc : va_P G.1 vwCl (ce_X4 G.2.1 a1 S1) H := hP.sub [4, 5, 6, 7, 8, 9, 10, 11, 12, 13, 14, 15] rfl
          have hDc : va_D A (ce_X4 G.2.1 a1 S1) := hD.sub [4, 5, 6, 7, 8, 9, 10, 11, 12, 13, 14, 15] (by decide) rfl
          have hFc := va_free (wc := ce_X4 G.2.1 a1 S1) hD hS hA [4, 5, 6, 7, 8, 9, 10, 11, 12, 13, 14, 15] rfl
          refine zc_ro (va_runVN (As := [.int (v5 - v5 / 5 * 5), .int (S1.2.2 + (v5 / 5))]) (rest := [.int v5, .ref a0.2.1]) ⟨hx, hb, hml, hown, hts⟩ (c_X4_newAt l G a1 H.size S1 (v5 - v5 / 5 * 5) (S1.2.2 + (v5 / 5)) _ hr5) (⟨va_cnB 2 hts gX3_search_X4_newAt_n27 rfl rfl rfl (hE.1 _ nw_49) lk8 (by decide +kernel) ⟨Nat.le_of_ble_eq_true rfl, Nat.le_of_ble_eq_true rfl⟩, lk9, lk10⟩) ⟨PcM.blind, va_recv hK hPc (ci := 4) (q0 := 0) rfl rfl, PcM.ok hPc hDc hK hE hS hFc⟩ rfl rfl hl.1 rfl (lv_room (Nat.le_of_ble_eq_true rfl)) dX3_search_44 ⟨Nat.le_refl _, Nat.le_refl _⟩) hP hD hS hA [4, 5, 6, 7, 8, 9, 10, 11, 12, 13, 14, 15] rfl (fun H locs hP hS => ?_)
          obtain ⟨hg6, hf⟩ := ob_guard hf
          refine va_iast hx hb hK hP hD hS 1 0 rfl rfl hg6 dX3_search_47 (fun H locs hP hD hS => ?_)
          have hP : va_P G.1 vwCl (ce_X3 G.2.1 a0 ((upd S0.1 (v5.toNatClampNeg) r5), S0.2.1, S0.2.2.1, S0.2.2.2.1, S0.2.2.2.2) ++ ce_X4 G.2.1 a1 S1) H := hP
          have hD : va_D A (ce_X3 G.2.1 a0 ((upd S0.1 (v5.toNatClampNeg) r5), S0.2.1, S0.2.2.1, S0.2.2.2.1, S0.2.2.2.2) ++ ce_X4 G.2.1 a1 S1) := hD
          refine lv_iload hx hb dX3_search_48 (lv_at hl 4 rfl) ?_
          refine lv_aload_n hx hb dX3_search_50 rfl (lv_at hl 0 rfl) ?_
          refine va_get (D := G.1) (ci := 3) (v := .ref a0.2.1) (C := RX3) (T := TX3) (N := 5) hx hb hts hinX3 hown hK hP 0 rfl rfl 0 (by decide) lk6 (fun _ h9 => h9) rfl dX3_search_51 ?_
          refine lv_iload hx hb dX3_search_54 (lv_at hl 5 rfl) ?_
          obtain ⟨hg7, hf⟩ := ob_guard hf
          refine va_iald hx hb hK hP 1 0 rfl rfl hg7 dX3_search_56 ?_
          refine lv_ior hx hb dX3_search_57 ?_
          refine lv_istore (lv' := [(4, .int (v4 ||| ((upd S0.1 (v5.toNatClampNeg) r5) v5.toNatClampNeg))), (0, .ref a0.1), (1, .ref a1.1), (2, .int v2), (3, .int v3), (5, .int v5)]) hx hb dX3_search_58 hl (by decide) rfl (fun ls hl => ?_)
          refine lv_iinc (v := v5 + 1) (lv' := [(5, .int (v5 + 1)), (4, .int (v4 ||| ((upd S0.1 (v5.toNatClampNeg) r5) v5.toNatClampNeg))), (0, .ref a0.1), (1, .ref a1.1), (2, .int v2), (3, .int v3)]) hx hb dX3_search_60 hl (k := 5) rfl rfl (by decide) rfl (fun ls hl => ?_)
          refine lv_goto (tgt := 6) hx hb dX3_search_63 (by decide) ?_
          exact ih6 _ _ _ _ _ hf _ _ hP hD hS _ (lv_sub hl [2, 3, 4, 5, 1, 0] rfl)
  have go : ∀ (H : Heap) (locs : List Loc), va_P G.1 vwCl (ce_X3 G.2.1 a0 S0 ++ ce_X4 G.2.1 a1 S1) H → va_D A (ce_X3 G.2.1 a0 S0 ++ ce_X4 G.2.1 a1 S1) → va_S A s.heap H locs → ∀ (ls : Array Slot), lv_has ls 6 [(0, .ref a0.1), (1, .ref a1.1), (2, .int p2), (3, .int p3)] → W p l e (headSpec wsX3_search rm_X3_search).room s m args below meth c H locs 0 0 Q (F0 m 0 ls []) := by
    intro H locs hP hD hS ls hl
    refine lv_iconst (v := 0) hx hb dX3_search_0 (by decide) ?_
    refine lv_istore (lv' := [(4, .int 0), (0, .ref a0.1), (1, .ref a1.1), (2, .int p2), (3, .int p3)]) hx hb dX3_search_1 hl (by decide) rfl (fun ls hl => ?_)
    refine lv_iconst (v := 0) hx hb dX3_search_3 (by decide) ?_
    refine lv_istore (lv' := [(5, .int 0), (4, .int 0), (0, .ref a0.1), (1, .ref a1.1), (2, .int p2), (3, .int p3)]) hx hb dX3_search_4 hl (by decide) rfl (fun ls hl => ?_)
    exact blk6 4096 _ _ _ _ _ hf _ _ hP hD hS _ (lv_sub hl [2, 3, 4, 5, 1, 0] rfl)
  exact go _ _ hP hD hS _ hl
abbrev rm_X4_copyFrom : Room := { frames := 2, cells := 0, slots := 0, locals := 61 }
set_option maxHeartbeats 4000000 in
set_option maxRecDepth 100000 in
theorem c_X4_copyFrom (l : Launch) (G : zG) (a0 : AT_X4) (a1 : AT_X4) (sz : Nat) (S0 : ST_X4) (S1 : ST_X4) (out : ST_X4) (hf : f_X4_copyFrom S0 S1 = some out) : Met l yX4_copyFrom wsX4_copyFrom rm_X4_copyFrom (PcM G (ce_X4 G.2.1 a0 S0 ++ ce_X4 G.2.1 a1 S1) [.ref a0.1, .ref a1.1] sz) (QWv G (fun u => ce_X4 G.2.1 a0 u ++ ce_X4 G.2.1 a1 S1) out (va_A (ce_X4 G.2.1 a0 S0 ++ ce_X4 G.2.1 a1 S1) sz)) 0 0 (va_A (ce_X4 G.2.1 a0 S0 ++ ce_X4 G.2.1 a1 S1) sz) := by
  rw [f_X4_copyFrom] at hf
  refine Met.ofW (cc := cX4_copyFrom) (maxL := 2) (ret := none) (by decide) rfl ?_
  intro p e s m args below meth c s₁ B hml hv
  obtain ⟨hargs, hsz, hP, hK, hD0, hE⟩ := hv
  have hx := B.exec
  have hb := B.bytes
  have hr := B.returns
  have hts := atoms_spec (ws := wsX4_copyFrom) B.pre
  have hown : s.vm.findClass RX4 = some m.cls := findClass_of_methodNamed B.named
  have hlocks := B.notSynchronized
  subst hsz
  have hD := hD0.self (sz := s.heap.size)
  generalize hAe : va_A (ce_X4 G.2.1 a0 S0 ++ ce_X4 G.2.1 a1 S1) s.heap.size = A at hD hE ⊢
  have hA : ∀ q : Nat, s.heap.size ≤ q → A q := fun q h => by rw [← hAe]; exact Or.inr h
  have hS : va_S A s.heap s.heap [] := va_S.rf
  have hl := lv_entry ([.ref a0.1, .ref a1.1]) (n := 2) (Nat.le_of_ble_eq_true rfl)
  have hent : entryFrame m args 2 = F0 m 0 ((lg_sl ([.ref a0.1, .ref a1.1]) ++ List.replicate (2 - (lg_sl ([.ref a0.1, .ref a1.1])).length) Slot.unset).toArray) [] := by rw [hargs, lg_entry_eq]
  rw [hent]
  clear hent
  generalize (lg_sl ([.ref a0.1, .ref a1.1]) ++ List.replicate (2 - (lg_sl ([.ref a0.1, .ref a1.1])).length) Slot.unset).toArray = ls at hl ⊢
  have hl : lv_has ls 2 [(0, .ref a0.1), (1, .ref a1.1)] := hl
  have lk0 := hts (Cond.fieldLink RX4 12 "EnginesOnList$World" "fleet" "LEnginesOnList$Fleet;") (List.mem_of_getElem? (i := 1) rfl)
  have lk1 := hts (Cond.initialized RX1) (List.mem_of_getElem? (i := 5) rfl)
  have lk2 := hts (Cond.instanceMethod yX1_copyFrom) (List.mem_of_getElem? (i := 4) rfl)
  have lk3 := hts (Cond.selects RX1 yX1_copyFrom yX1_copyFrom) (List.mem_of_getElem? (i := 6) rfl)
  have lk4 := hts (Cond.fieldLink RX4 21 "EnginesOnList$World" "book" "LEnginesOnList$Book;") (List.mem_of_getElem? (i := 2) rfl)
  have lk5 := hts (Cond.initialized RX0) (List.mem_of_getElem? (i := 22) rfl)
  have lk6 := hts (Cond.instanceMethod yX0_copyFrom) (List.mem_of_getElem? (i := 21) rfl)
  have lk7 := hts (Cond.selects RX0 yX0_copyFrom yX0_copyFrom) (List.mem_of_getElem? (i := 23) rfl)
  have lk8 := hts (Cond.fieldLink RX4 32 "EnginesOnList$World" "today" "I") (List.mem_of_getElem? (i := 3) rfl)
  have hinX4 : ∀ w ∈ wsX40, w ∈ wsX4_copyFrom := by decide +kernel
  have fin : ∀ (pc : Nat) (u : ST_X4) (H : Heap) (locs : List Loc) (ls : Array Slot), some u = some out → va_P G.1 vwCl (ce_X4 G.2.1 a0 u ++ ce_X4 G.2.1 a1 S1) H → va_D A (ce_X4 G.2.1 a0 u ++ ce_X4 G.2.1 a1 S1) → va_S A s.heap H locs → decode cX4_copyFrom pc = .ok (.return_, 1) → W p l e (headSpec wsX4_copyFrom rm_X4_copyFrom).room s m args below meth c H locs 0 0 (MQ below (QWv G (fun u => ce_X4 G.2.1 a0 u ++ ce_X4 G.2.1 a1 S1) out A) args s 0 0 A) (F0 m pc ls []) := fun pc u H locs ls ho hP hD hS hd => W.vret hx hb hr (fun t ht hW => ⟨⟨u, rfl, Option.some.inj ho, by first | (rw [ht]; exact hP) | (dsimp only; rw [ht]; exact hP), hD⟩, hS.F ht⟩) hS.2.2 hd
  generalize MQ below (QWv G (fun u => ce_X4 G.2.1 a0 u ++ ce_X4 G.2.1 a1 S1) out A) args s 0 0 A = Q at fin ⊢
  have go : ∀ (H : Heap) (locs : List Loc), va_P G.1 vwCl (ce_X4 G.2.1 a0 S0 ++ ce_X4 G.2.1 a1 S1) H → va_D A (ce_X4 G.2.1 a0 S0 ++ ce_X4 G.2.1 a1 S1) → va_S A s.heap H locs → ∀ (ls : Array Slot), lv_has ls 2 [(0, .ref a0.1), (1, .ref a1.1)] → W p l e (headSpec wsX4_copyFrom rm_X4_copyFrom).room s m args below meth c H locs 0 0 Q (F0 m 0 ls []) := by
    intro H locs hP hD hS ls hl
    refine lv_aload_n hx hb dX4_copyFrom_0 rfl (lv_at hl 0 rfl) ?_
    refine va_get (D := G.1) (ci := 4) (v := .ref a0.2.1.1) (C := RX4) (T := TX4) (N := 3) hx hb hts hinX4 hown hK hP 0 rfl rfl 0 (by decide) lk0 (fun _ h9 => h9) rfl dX4_copyFrom_1 ?_
    refine lv_aload_n hx hb dX4_copyFrom_4 rfl (lv_at hl 1 rfl) ?_
    refine va_get (D := G.1) (ci := 4) (v := .ref a1.2.1.1) (C := RX4) (T := TX4) (N := 3) hx hb hts hinX4 hown hK hP 12 rfl rfl 0 (by decide) lk0 (fun _ h9 => h9) rfl dX4_copyFrom_5 ?_
    obtain ⟨r1, hr1, hf⟩ := ob_bind hf
    have hPc : va_P G.1 vwCl (ce_X1 G.2.1 a0.2.1 S0.1 ++ ce_X1 G.2.1 a1.2.1 S1.1) H := hP.sub [1, 2, 3, 4, 5, 6, 13, 14, 15, 16, 17, 18] rfl
    have hDc : va_D A (ce_X1 G.2.1 a0.2.1 S0.1 ++ ce_X1 G.2.1 a1.2.1 S1.1) := hD.sub [1, 2, 3, 4, 5, 6, 13, 14, 15, 16, 17, 18] (by decide) rfl
    have hFc := va_free (wc := ce_X1 G.2.1 a0.2.1 S0.1 ++ ce_X1 G.2.1 a1.2.1 S1.1) hD hS hA [1, 2, 3, 4, 5, 6, 13, 14, 15, 16, 17, 18] rfl
    refine zc_wv (cf := (fun u => ce_X1 G.2.1 a0.2.1 u ++ ce_X1 G.2.1 a1.2.1 S1.1)) (ws' := ce_X4 G.2.1 a0 (r1, S0.2.1, S0.2.2) ++ ce_X4 G.2.1 a1 S1) (va_runVN (As := [.ref a1.2.1.1]) (rest := []) ⟨hx, hb, hml, hown, hts⟩ (c_X1_copyFrom l G a0.2.1 a1.2.1 H.size S0.1 S1.1 _ hr1) (⟨va_cnB 1 hts gX4_copyFrom_X1_copyFrom_n25 rfl rfl rfl (hE.1 _ nw_69) lk1 (by decide +kernel) ⟨Nat.le_of_ble_eq_true rfl, Nat.le_of_ble_eq_true rfl⟩, lk2, lk3⟩) ⟨PcM.blind, va_recv hK hPc (ci := 1) (q0 := 0) rfl rfl, PcM.ok hPc hDc hK hE hS hFc⟩ rfl rfl hl.1 rfl (lv_room (Nat.le_of_ble_eq_true rfl)) dX4_copyFrom_8 ⟨Nat.le_refl _, Nat.le_refl _⟩) hP hD hS hA [1, 2, 3, 4, 5, 6, 13, 14, 15, 16, 17, 18] [0, 7, 8, 9, 10, 11, 12, 19, 20, 21, 22, 23] [0, 12, 13, 14, 15, 16, 17, 1, 2, 3, 4, 5, 6, 18, 19, 20, 21, 22, 23, 7, 8, 9, 10, 11] rfl rfl (by decide) (by decide) (by decide) rfl (fun H locs hP hD hS => ?_)
    refine lv_aload_n hx hb dX4_copyFrom_11 rfl (lv_at hl 0 rfl) ?_
    refine va_get (D := G.1) (ci := 4) (v := .ref a0.2.2.1) (C := RX4) (T := TX4) (N := 3) hx hb hts hinX4 hown hK hP 0 rfl rfl 1 (by decide) lk4 (fun _ h9 => h9) rfl dX4_copyFrom_12 ?_
    refine lv_aload_n hx hb dX4_copyFrom_15 rfl (lv_at hl 1 rfl) ?_
    refine va_get (D := G.1) (ci := 4) (v := .ref a1.2.2.1) (C := RX4) (T := TX4) (N := 3) hx hb hts hinX4 hown hK hP 12 rfl rfl 1 (by decide) lk4 (fun _ h9 => h9) rfl dX4_copyFrom_16 ?_
    obtain ⟨r2, hr2, hf⟩ := ob_bind hf
    have hPc : va_P G.1 vwCl (ce_X0 G.2.1 a0.2.2 S0.2.1 ++ ce_X0 G.2.1 a1.2.2 S1.2.1) H := hP.sub [7, 8, 9, 10, 11, 19, 20, 21, 22, 23] rfl
    have hDc : va_D A (ce_X0 G.2.1 a0.2.2 S0.2.1 ++ ce_X0 G.2.1 a1.2.2 S1.2.1) := hD.sub [7, 8, 9, 10, 11, 19, 20, 21, 22, 23] (by decide) rfl
    have hFc := va_free (wc := ce_X0 G.2.1 a0.2.2 S0.2.1 ++ ce_X0 G.2.1 a1.2.2 S1.2.1) hD hS hA [7, 8, 9, 10, 11, 19, 20, 21, 22, 23] rfl
    refine zc_wv (cf := (fun u => ce_X0 G.2.1 a0.2.2 u ++ ce_X0 G.2.1 a1.2.2 S1.2.1)) (ws' := ce_X4 G.2.1 a0 (r1, r2, S0.2.2) ++ ce_X4 G.2.1 a1 S1) (va_runVN (As := [.ref a1.2.2.1]) (rest := []) ⟨hx, hb, hml, hown, hts⟩ (c_X0_copyFrom l G a0.2.2 a1.2.2 H.size S0.2.1 S1.2.1 _ hr2) (⟨va_cnB 1 hts gX4_copyFrom_X0_copyFrom_n29 rfl rfl rfl (hE.1 _ nw_70) lk5 (by decide +kernel) ⟨Nat.le_of_ble_eq_true rfl, Nat.le_of_ble_eq_true rfl⟩, lk6, lk7⟩) ⟨PcM.blind, va_recv hK hPc (ci := 0) (q0 := 0) rfl rfl, PcM.ok hPc hDc hK hE hS hFc⟩ rfl rfl hl.1 rfl (lv_room (Nat.le_of_ble_eq_true rfl)) dX4_copyFrom_19 ⟨Nat.le_refl _, Nat.le_refl _⟩) hP hD hS hA [7, 8, 9, 10, 11, 19, 20, 21, 22, 23] [0, 1, 2, 3, 4, 5, 6, 12, 13, 14, 15, 16, 17, 18] [0, 1, 2, 3, 4, 5, 6, 14, 15, 16, 17, 18, 7, 8, 9, 10, 11, 12, 13, 19, 20, 21, 22, 23] rfl rfl (by decide) (by decide) (by decide) rfl (fun H locs hP hD hS => ?_)
    refine lv_aload_n hx hb dX4_copyFrom_22 rfl (lv_at hl 0 rfl) ?_
    refine lv_aload_n hx hb dX4_copyFrom_23 rfl (lv_at hl 1 rfl) ?_
    refine va_get (D := G.1) (ci := 4) (v := .int S1.2.2) (C := RX4) (T := TX4) (N := 3) hx hb hts hinX4 hown hK hP 12 rfl rfl 2 (by decide) lk8 (fun _ h9 => h9) rfl dX4_copyFrom_24 ?_
    refine va_put (D := G.1) (ci := 4) (v := .int S1.2.2) (ty := .int) (C := RX4) (T := TX4) (N := 3) hx hb hts hinX4 tyX4 tyX4_ok nmX4 hown hK hP hD hS 0 rfl rfl 2 (by decide) lk8 (fun _ h9 => h9) rfl (by decide +kernel) rfl rfl (Nat.le_of_ble_eq_true rfl) dX4_copyFrom_27 (fun H locs hP hD hS => ?_)
    have hP : va_P G.1 vwCl (ce_X4 G.2.1 a0 (r1, r2, S1.2.2) ++ ce_X4 G.2.1 a1 S1) H := hP
    have hD : va_D A (ce_X4 G.2.1 a0 (r1, r2, S1.2.2) ++ ce_X4 G.2.1 a1 S1) := hD
    exact fin _ _ _ _ _ hf hP hD hS dX4_copyFrom_30
  exact go _ _ hP hD hS _ hl
abbrev rm_X4_freshWorth : Room := { frames := 6, cells := 0, slots := 0, locals := 139 }
set_option maxHeartbeats 4000000 in
set_option maxRecDepth 100000 in
theorem c_X4_freshWorth (l : Launch) (G : zG) (a0 : AT_X4) (sz : Nat) (S0 : ST_X4) (p1 : Int32) (p2 : Int32) (out : Int32) (hf : f_X4_freshWorth S0 p1 p2 = some out) : Met l yX4_freshWorth wsX4_freshWorth rm_X4_freshWorth (PcM G (ce_X4 G.2.1 a0 S0) [.ref a0.1, .int p1, .int p2] sz) (QRo G (ce_X4 G.2.1 a0 S0) out (va_A (ce_X4 G.2.1 a0 S0) sz)) 0 0 (va_A (ce_X4 G.2.1 a0 S0) sz) := by
  rw [f_X4_freshWorth] at hf
  refine Met.ofW (cc := cX4_freshWorth) (maxL := 5) (ret := (some .int)) (by decide) rfl ?_
  intro p e s m args below meth c s₁ B hml hv
  obtain ⟨hargs, hsz, hP, hK, hD0, hE⟩ := hv
  have hx := B.exec
  have hb := B.bytes
  have hr := B.returns
  have hts := atoms_spec (ws := wsX4_freshWorth) B.pre
  have hown : s.vm.findClass RX4 = some m.cls := findClass_of_methodNamed B.named
  have hlocks := B.notSynchronized
  subst hsz
  have hD := hD0.self (sz := s.heap.size)
  generalize hAe : va_A (ce_X4 G.2.1 a0 S0) s.heap.size = A at hD hE ⊢
  have hA : ∀ q : Nat, s.heap.size ≤ q → A q := fun q h => by rw [← hAe]; exact Or.inr h
  have hS : va_S A s.heap s.heap [] := va_S.rf
  have hl := lv_entry ([.ref a0.1, .int p1, .int p2]) (n := 5) (Nat.le_of_ble_eq_true rfl)
  have hent : entryFrame m args 5 = F0 m 0 ((lg_sl ([.ref a0.1, .int p1, .int p2]) ++ List.replicate (5 - (lg_sl ([.ref a0.1, .int p1, .int p2])).length) Slot.unset).toArray) [] := by rw [hargs, lg_entry_eq]
  rw [hent]
  clear hent
  generalize (lg_sl ([.ref a0.1, .int p1, .int p2]) ++ List.replicate (5 - (lg_sl ([.ref a0.1, .int p1, .int p2])).length) Slot.unset).toArray = ls at hl ⊢
  have hl : lv_has ls 5 [(0, .ref a0.1), (1, .int p1), (2, .int p2)] := hl
  have lk0 := hts (Cond.fieldLink RX4 12 "EnginesOnList$World" "fleet" "LEnginesOnList$Fleet;") (List.mem_of_getElem? (i := 2) rfl)
  have lk1 := hts (Cond.initialized RX1) (List.mem_of_getElem? (i := 9) rfl)
  have lk2 := hts (Cond.instanceMethod yX1_worth) (List.mem_of_getElem? (i := 49) rfl)
  have lk3 := hts (Cond.selects RX1 yX1_worth yX1_worth) (List.mem_of_getElem? (i := 50) rfl)
  have lk4 := hts (Cond.fieldLink RX4 32 "EnginesOnList$World" "today" "I") (List.mem_of_getElem? (i := 1) rfl)
  have hinX4 : ∀ w ∈ wsX40, w ∈ wsX4_freshWorth := by decide +kernel
  have fin : ∀ (pc : Nat) (v : Int32) (H : Heap) (locs : List Loc) (ls : Array Slot), some v = some out → va_P G.1 vwCl (ce_X4 G.2.1 a0 S0) H → va_D A (ce_X4 G.2.1 a0 S0) → va_S A s.heap H locs → decode cX4_freshWorth pc = .ok (.ireturn, 1) → W p l e (headSpec wsX4_freshWorth rm_X4_freshWorth).room s m args below meth c H locs 0 0 (MQ below (QRo G (ce_X4 G.2.1 a0 S0) out A) args s 0 0 A) (F0 m pc ls [.int v]) := fun pc v H locs ls ho hP hD hS hd => W.iret (v := v) hx hb hr (fun t ht hW => ⟨⟨v, (), rfl, Option.some.inj ho, by first | (rw [ht]; exact hP) | (dsimp only; rw [ht]; exact hP)⟩, hS.F ht⟩) hS.2.2 hd
  generalize MQ below (QRo G (ce_X4 G.2.1 a0 S0) out A) args s 0 0 A = Q at fin ⊢
  have blk5 : ∀ (fu5 : Nat), ∀ (v1 : Int32) (v2 : Int32) (v3 : Int32) (v4 : Int32), f_X4_freshWorth_b5 S0 fu5 v1 v2 v3 v4 = some out → ∀ (H : Heap) (locs : List Loc), va_P G.1 vwCl (ce_X4 G.2.1 a0 S0) H → va_D A (ce_X4 G.2.1 a0 S0) → va_S A s.heap H locs → ∀ (ls : Array Slot), lv_has ls 5 [(0, .ref a0.1), (1, .int v1), (2, .int v2), (3, .int v3), (4, .int v4)] → W p l e (headSpec wsX4_freshWorth rm_X4_freshWorth).room s m args below meth c H locs 0 0 Q (F0 m 5 ls []) := by
    intro fu5
    induction fu5 with
    | zero => intro v1 v2 v3 v4 hf; exact ob_none hf
    | succ fu5 ih5 =>
      intro v1 v2 v3 v4 hf H locs hP hD hS ls hl
      rw [f_X4_freshWorth_b5] at hf
      refine lv_iload hx hb dX4_freshWorth_5 (lv_at hl 4 rfl) ?_
      refine lv_iload_n hx hb dX4_freshWorth_7 rfl (lv_at hl 2 rfl) ?_
      refine lv_icmp_ge (tgt := 32) hx hb dX4_freshWorth_8 (by decide) (fun c1 => ?_) (fun c1 => ?_)
      · replace hf := ob_pos c1 hf
        refine lv_aload_n hx hb dX4_freshWorth_32 rfl (lv_at hl 0 rfl) ?_
        refine va_get (D := G.1) (ci := 4) (v := .ref a0.2.1.1) (C := RX4) (T := TX4) (N := 3) hx hb hts hinX4 hown hK hP 0 rfl rfl 0 (by decide) lk0 (fun _ h9 => h9) rfl dX4_freshWorth_33 ?_
        refine lv_iload_n hx hb dX4_freshWorth_36 rfl (lv_at hl 3 rfl) ?_
        obtain ⟨r2, hr2, hf⟩ := ob_bind hf
        have hPc : va_P G.1 vwCl (ce_X1 G.2.1 a0.2.1 S0.1) H := hP.sub [1, 2, 3, 4, 5, 6] rfl
        have hDc : va_D A (ce_X1 G.2.1 a0.2.1 S0.1) := hD.sub [1, 2, 3, 4, 5, 6] (by decide) rfl
        have hFc := va_free (wc := ce_X1 G.2.1 a0.2.1 S0.1) hD hS hA [1, 2, 3, 4, 5, 6] rfl
        refine zc_ro (va_runVN (As := [.int v3]) (rest := []) ⟨hx, hb, hml, hown, hts⟩ (c_X1_worth l G a0.2.1 H.size S0.1 v3 _ hr2) (⟨va_cnB 1 hts gX4_freshWorth_X1_worth_n47 rfl rfl rfl (hE.1 _ nw_47) lk1 (by decide +kernel) ⟨Nat.le_of_ble_eq_true rfl, Nat.le_of_ble_eq_true rfl⟩, lk2, lk3⟩) ⟨PcM.blind, va_recv hK hPc (ci := 1) (q0 := 0) rfl rfl, PcM.ok hPc hDc hK hE hS hFc⟩ rfl rfl hl.1 rfl (lv_room (Nat.le_of_ble_eq_true rfl)) dX4_freshWorth_37 ⟨Nat.le_refl _, Nat.le_refl _⟩) hP hD hS hA [1, 2, 3, 4, 5, 6] rfl (fun H locs hP hS => ?_)
        exact fin _ _ _ _ _ hf hP hD hS dX4_freshWorth_40
      · replace hf := ob_neg c1 hf
        refine lv_iload_n hx hb dX4_freshWorth_11 rfl (lv_at hl 3 rfl) ?_
        refine lv_aload_n hx hb dX4_freshWorth_12 rfl (lv_at hl 0 rfl) ?_
        refine lv_iload_n hx hb dX4_freshWorth_13 rfl (lv_at hl 1 rfl) ?_
        refine lv_aload_n hx hb dX4_freshWorth_14 rfl (lv_at hl 0 rfl) ?_
        refine va_get (D := G.1) (ci := 4) (v := .int S0.2.2) (C := RX4) (T := TX4) (N := 3) hx hb hts hinX4 hown hK hP 0 rfl rfl 2 (by decide) lk4 (fun _ h9 => h9) rfl dX4_freshWorth_15 ?_
        refine lv_iload hx hb dX4_freshWorth_18 (lv_at hl 4 rfl) ?_
        refine lv_iadd hx hb dX4_freshWorth_20 ?_
        obtain ⟨r3, hr3, hf⟩ := ob_bind hf
        have hFc := va_free (wc := ce_X4 G.2.1 a0 S0) hD hS hA [0, 1, 2, 3, 4, 5, 6, 7, 8, 9, 10, 11] rfl
        refine zc_ro (va_runV (As := [.int v1, .int (S0.2.2 + v4)]) (rest := [.int v3]) ⟨hx, hb, hml, hown, hts⟩ (c_X4_newAt l G a0 H.size S0 v1 (S0.2.2 + v4) _ hr3) (cwV 2 hts gX4_freshWorth_X4_newAt rfl rfl rfl (by decide +kernel) ⟨Nat.le_of_ble_eq_true rfl, Nat.le_of_ble_eq_true rfl⟩) ⟨PcM.blind, va_recv hK hP (ci := 4) (q0 := 0) rfl rfl, PcM.ok hP hD hK hE hS hFc⟩ rfl rfl hl.1 rfl (lv_room (Nat.le_of_ble_eq_true rfl)) dX4_freshWorth_21 ⟨Nat.le_refl _, Nat.le_refl _⟩) hP hD hS hA [0, 1, 2, 3, 4, 5, 6, 7, 8, 9, 10, 11] rfl (fun H locs hP hS => ?_)
        refine lv_ior hx hb dX4_freshWorth_24 ?_
        refine lv_istore_n (lv' := [(3, .int (v3 ||| r3)), (0, .ref a0.1), (1, .int v1), (2, .int v2), (4, .int v4)]) hx hb dX4_freshWorth_25 rfl hl (by decide) rfl (fun ls hl => ?_)
        refine lv_iinc (v := v4 + 1) (lv' := [(4, .int (v4 + 1)), (3, .int (v3 ||| r3)), (0, .ref a0.1), (1, .int v1), (2, .int v2)]) hx hb dX4_freshWorth_26 hl (k := 4) rfl rfl (by decide) rfl (fun ls hl => ?_)
        refine lv_goto (tgt := 5) hx hb dX4_freshWorth_29 (by decide) ?_
        exact ih5 _ _ _ _ hf _ _ hP hD hS _ (lv_sub hl [2, 3, 4, 1, 0] rfl)
  have go : ∀ (H : Heap) (locs : List Loc), va_P G.1 vwCl (ce_X4 G.2.1 a0 S0) H → va_D A (ce_X4 G.2.1 a0 S0) → va_S A s.heap H locs → ∀ (ls : Array Slot), lv_has ls 5 [(0, .ref a0.1), (1, .int p1), (2, .int p2)] → W p l e (headSpec wsX4_freshWorth rm_X4_freshWorth).room s m args below meth c H locs 0 0 Q (F0 m 0 ls []) := by
    intro H locs hP hD hS ls hl
    refine lv_iconst (v := 0) hx hb dX4_freshWorth_0 (by decide) ?_
    refine lv_istore_n (lv' := [(3, .int 0), (0, .ref a0.1), (1, .int p1), (2, .int p2)]) hx hb dX4_freshWorth_1 rfl hl (by decide) rfl (fun ls hl => ?_)
    refine lv_iconst (v := 0) hx hb dX4_freshWorth_2 (by decide) ?_
    refine lv_istore (lv' := [(4, .int 0), (3, .int 0), (0, .ref a0.1), (1, .int p1), (2, .int p2)]) hx hb dX4_freshWorth_3 hl (by decide) rfl (fun ls hl => ?_)
    exact blk5 4096 _ _ _ _ hf _ _ hP hD hS _ (lv_sub hl [2, 3, 4, 1, 0] rfl)
  exact go _ _ hP hD hS _ hl
abbrev rm_X4_drawnWorth : Room := { frames := 6, cells := 0, slots := 0, locals := 139 }
set_option maxHeartbeats 4000000 in
set_option maxRecDepth 100000 in
theorem c_X4_drawnWorth (l : Launch) (G : zG) (a0 : AT_X4) (sz : Nat) (S0 : ST_X4) (p1 : Int32) (p2 : Int32) (out : Int32) (hf : f_X4_drawnWorth S0 p1 p2 = some out) : Met l yX4_drawnWorth wsX4_drawnWorth rm_X4_drawnWorth (PcM G (ce_X4 G.2.1 a0 S0) [.ref a0.1, .int p1, .int p2] sz) (QRo G (ce_X4 G.2.1 a0 S0) out (va_A (ce_X4 G.2.1 a0 S0) sz)) 0 0 (va_A (ce_X4 G.2.1 a0 S0) sz) := by
  rw [f_X4_drawnWorth] at hf
  refine Met.ofW (cc := cX4_drawnWorth) (maxL := 6) (ret := (some .int)) (by decide) rfl ?_
  intro p e s m args below meth c s₁ B hml hv
  obtain ⟨hargs, hsz, hP, hK, hD0, hE⟩ := hv
  have hx := B.exec
  have hb := B.bytes
  have hr := B.returns
  have hts := atoms_spec (ws := wsX4_drawnWorth) B.pre
  have hown : s.vm.findClass RX4 = some m.cls := findClass_of_methodNamed B.named
  have hlocks := B.notSynchronized
  subst hsz
  have hD := hD0.self (sz := s.heap.size)
  generalize hAe : va_A (ce_X4 G.2.1 a0 S0) s.heap.size = A at hD hE ⊢
  have hA : ∀ q : Nat, s.heap.size ≤ q → A q := fun q h => by rw [← hAe]; exact Or.inr h
  have hS : va_S A s.heap s.heap [] := va_S.rf
  have hl := lv_entry ([.ref a0.1, .int p1, .int p2]) (n := 6) (Nat.le_of_ble_eq_true rfl)
  have hent : entryFrame m args 6 = F0 m 0 ((lg_sl ([.ref a0.1, .int p1, .int p2]) ++ List.replicate (6 - (lg_sl ([.ref a0.1, .int p1, .int p2])).length) Slot.unset).toArray) [] := by rw [hargs, lg_entry_eq]
  rw [hent]
  clear hent
  generalize (lg_sl ([.ref a0.1, .int p1, .int p2]) ++ List.replicate (6 - (lg_sl ([.ref a0.1, .int p1, .int p2])).length) Slot.unset).toArray = ls at hl ⊢
  have hl : lv_has ls 6 [(0, .ref a0.1), (1, .int p1), (2, .int p2)] := hl
  have lk0 := hts (Cond.fieldLink RX4 12 "EnginesOnList$World" "fleet" "LEnginesOnList$Fleet;") (List.mem_of_getElem? (i := 5) rfl)
  have lk1 := hts (Cond.initialized RX1) (List.mem_of_getElem? (i := 12) rfl)
  have lk2 := hts (Cond.instanceMethod yX1_worth) (List.mem_of_getElem? (i := 52) rfl)
  have lk3 := hts (Cond.selects RX1 yX1_worth yX1_worth) (List.mem_of_getElem? (i := 53) rfl)
  have lk4 := hts (Cond.constant RX4 50 (1664525)) (List.mem_of_getElem? (i := 1) rfl)
  have lk5 := hts (Cond.constant RX4 51 (1013904223)) (List.mem_of_getElem? (i := 2) rfl)
  have lk6 := hts (Cond.constant RX4 52 (2147483647)) (List.mem_of_getElem? (i := 3) rfl)
  have lk7 := hts (Cond.fieldLink RX4 32 "EnginesOnList$World" "today" "I") (List.mem_of_getElem? (i := 4) rfl)
  have hinX4 : ∀ w ∈ wsX40, w ∈ wsX4_drawnWorth := by decide +kernel
  have fin : ∀ (pc : Nat) (v : Int32) (H : Heap) (locs : List Loc) (ls : Array Slot), some v = some out → va_P G.1 vwCl (ce_X4 G.2.1 a0 S0) H → va_D A (ce_X4 G.2.1 a0 S0) → va_S A s.heap H locs → decode cX4_drawnWorth pc = .ok (.ireturn, 1) → W p l e (headSpec wsX4_drawnWorth rm_X4_drawnWorth).room s m args below meth c H locs 0 0 (MQ below (QRo G (ce_X4 G.2.1 a0 S0) out A) args s 0 0 A) (F0 m pc ls [.int v]) := fun pc v H locs ls ho hP hD hS hd => W.iret (v := v) hx hb hr (fun t ht hW => ⟨⟨v, (), rfl, Option.some.inj ho, by first | (rw [ht]; exact hP) | (dsimp only; rw [ht]; exact hP)⟩, hS.F ht⟩) hS.2.2 hd
  generalize MQ below (QRo G (ce_X4 G.2.1 a0 S0) out A) args s 0 0 A = Q at fin ⊢
  have blk8 : ∀ (fu8 : Nat), ∀ (v1 : Int32) (v3 : Int32) (v4 : Int32) (v5 : Int32), f_X4_drawnWorth_b8 S0 fu8 v1 v3 v4 v5 = some out → ∀ (H : Heap) (locs : List Loc), va_P G.1 vwCl (ce_X4 G.2.1 a0 S0) H → va_D A (ce_X4 G.2.1 a0 S0) → va_S A s.heap H locs → ∀ (ls : Array Slot), lv_has ls 6 [(0, .ref a0.1), (1, .int v1), (3, .int v3), (4, .int v4), (5, .int v5)] → W p l e (headSpec wsX4_drawnWorth rm_X4_drawnWorth).room s m args below meth c H locs 0 0 Q (F0 m 8 ls []) := by
    intro fu8
    induction fu8 with
    | zero => intro v1 v3 v4 v5 hf; exact ob_none hf
    | succ fu8 ih8 =>
      intro v1 v3 v4 v5 hf H locs hP hD hS ls hl
      rw [f_X4_drawnWorth_b8] at hf
      refine lv_iload hx hb dX4_drawnWorth_8 (lv_at hl 4 rfl) ?_
      refine lv_iload_n hx hb dX4_drawnWorth_10 rfl (lv_at hl 1 rfl) ?_
      refine lv_icmp_ge (tgt := 54) hx hb dX4_drawnWorth_11 (by decide) (fun c1 => ?_) (fun c1 => ?_)
      · replace hf := ob_pos c1 hf
        refine lv_aload_n hx hb dX4_drawnWorth_54 rfl (lv_at hl 0 rfl) ?_
        refine va_get (D := G.1) (ci := 4) (v := .ref a0.2.1.1) (C := RX4) (T := TX4) (N := 3) hx hb hts hinX4 hown hK hP 0 rfl rfl 0 (by decide) lk0 (fun _ h9 => h9) rfl dX4_drawnWorth_55 ?_
        refine lv_iload hx hb dX4_drawnWorth_58 (lv_at hl 3 rfl) ?_
        obtain ⟨r2, hr2, hf⟩ := ob_bind hf
        have hPc : va_P G.1 vwCl (ce_X1 G.2.1 a0.2.1 S0.1) H := hP.sub [1, 2, 3, 4, 5, 6] rfl
        have hDc : va_D A (ce_X1 G.2.1 a0.2.1 S0.1) := hD.sub [1, 2, 3, 4, 5, 6] (by decide) rfl
        have hFc := va_free (wc := ce_X1 G.2.1 a0.2.1 S0.1) hD hS hA [1, 2, 3, 4, 5, 6] rfl
        refine zc_ro (va_runVN (As := [.int v4]) (rest := []) ⟨hx, hb, hml, hown, hts⟩ (c_X1_worth l G a0.2.1 H.size S0.1 v4 _ hr2) (⟨va_cnB 1 hts gX4_drawnWorth_X1_worth_n47 rfl rfl rfl (hE.1 _ nw_47) lk1 (by decide +kernel) ⟨Nat.le_of_ble_eq_true rfl, Nat.le_of_ble_eq_true rfl⟩, lk2, lk3⟩) ⟨PcM.blind, va_recv hK hPc (ci := 1) (q0 := 0) rfl rfl, PcM.ok hPc hDc hK hE hS hFc⟩ rfl rfl hl.1 rfl (lv_room (Nat.le_of_ble_eq_true rfl)) dX4_drawnWorth_60 ⟨Nat.le_refl _, Nat.le_refl _⟩) hP hD hS hA [1, 2, 3, 4, 5, 6] rfl (fun H locs hP hS => ?_)
        exact fin _ _ _ _ _ hf hP hD hS dX4_drawnWorth_63
      · replace hf := ob_neg c1 hf
        refine lv_iload_n hx hb dX4_drawnWorth_14 rfl (lv_at hl 2 rfl) ?_
        refine lv_ldc (v := 1664525) hx hb hown lk4 dX4_drawnWorth_15 ?_
        refine lv_imul hx hb dX4_drawnWorth_17 ?_
        refine lv_ldc (v := 1013904223) hx hb hown lk5 dX4_drawnWorth_18 ?_
        refine lv_iadd hx hb dX4_drawnWorth_20 ?_
        refine lv_istore_n (lv' := [(3, .int ((v3 * 1664525) + 1013904223)), (0, .ref a0.1), (1, .int v1), (4, .int v4), (5, .int v5)]) hx hb dX4_drawnWorth_21 rfl hl (by decide) rfl (fun ls hl => ?_)
        refine lv_iload hx hb dX4_drawnWorth_22 (lv_at hl 3 rfl) ?_
        refine lv_aload_n hx hb dX4_drawnWorth_24 rfl (lv_at hl 1 rfl) ?_
        refine lv_iload_n hx hb dX4_drawnWorth_25 rfl (lv_at hl 0 rfl) ?_
        refine lv_ldc (v := 2147483647) hx hb hown lk6 dX4_drawnWorth_26 ?_
        refine lv_iand hx hb dX4_drawnWorth_28 ?_
        refine lv_sipush (v := 256) hx hb dX4_drawnWorth_29 (by decide) ?_
        refine lv_idiv hx hb dX4_drawnWorth_32 (by decide) ?_
        refine lv_iconst (v := 5) hx hb dX4_drawnWorth_33 (by decide) ?_
        refine lv_irem hx hb dX4_drawnWorth_34 (by decide) ?_
        refine lv_aload_n hx hb dX4_drawnWorth_35 rfl (lv_at hl 1 rfl) ?_
        refine va_get (D := G.1) (ci := 4) (v := .int S0.2.2) (C := RX4) (T := TX4) (N := 3) hx hb hts hinX4 hown hK hP 0 rfl rfl 2 (by decide) lk7 (fun _ h9 => h9) rfl dX4_drawnWorth_36 ?_
        refine lv_iload hx hb dX4_drawnWorth_39 (lv_at hl 4 rfl) ?_
        refine lv_iadd hx hb dX4_drawnWorth_41 ?_
        obtain ⟨r3, hr3, hf⟩ := ob_bind hf
        have hFc := va_free (wc := ce_X4 G.2.1 a0 S0) hD hS hA [0, 1, 2, 3, 4, 5, 6, 7, 8, 9, 10, 11] rfl
        refine zc_ro (va_runV (As := [.int (((((v3 * 1664525) + 1013904223) &&& 2147483647) / 256) - ((((v3 * 1664525) + 1013904223) &&& 2147483647) / 256) / 5 * 5), .int (S0.2.2 + v5)]) (rest := [.int v4]) ⟨hx, hb, hml, hown, hts⟩ (c_X4_newAt l G a0 H.size S0 (((((v3 * 1664525) + 1013904223) &&& 2147483647) / 256) - ((((v3 * 1664525) + 1013904223) &&& 2147483647) / 256) / 5 * 5) (S0.2.2 + v5) _ hr3) (cwV 2 hts gX4_drawnWorth_X4_newAt rfl rfl rfl (by decide +kernel) ⟨Nat.le_of_ble_eq_true rfl, Nat.le_of_ble_eq_true rfl⟩) ⟨PcM.blind, va_recv hK hP (ci := 4) (q0 := 0) rfl rfl, PcM.ok hP hD hK hE hS hFc⟩ rfl rfl hl.1 rfl (lv_room (Nat.le_of_ble_eq_true rfl)) dX4_drawnWorth_42 ⟨Nat.le_refl _, Nat.le_refl _⟩) hP hD hS hA [0, 1, 2, 3, 4, 5, 6, 7, 8, 9, 10, 11] rfl (fun H locs hP hS => ?_)
        refine lv_ior hx hb dX4_drawnWorth_45 ?_
        refine lv_istore (lv' := [(4, .int (v4 ||| r3)), (3, .int ((v3 * 1664525) + 1013904223)), (0, .ref a0.1), (1, .int v1), (5, .int v5)]) hx hb dX4_drawnWorth_46 hl (by decide) rfl (fun ls hl => ?_)
        refine lv_iinc (v := v5 + 1) (lv' := [(5, .int (v5 + 1)), (4, .int (v4 ||| r3)), (3, .int ((v3 * 1664525) + 1013904223)), (0, .ref a0.1), (1, .int v1)]) hx hb dX4_drawnWorth_48 hl (k := 4) rfl rfl (by decide) rfl (fun ls hl => ?_)
        refine lv_goto (tgt := 8) hx hb dX4_drawnWorth_51 (by decide) ?_
        exact ih8 _ _ _ _ hf _ _ hP hD hS _ (lv_sub hl [3, 4, 2, 1, 0] rfl)
  have go : ∀ (H : Heap) (locs : List Loc), va_P G.1 vwCl (ce_X4 G.2.1 a0 S0) H → va_D A (ce_X4 G.2.1 a0 S0) → va_S A s.heap H locs → ∀ (ls : Array Slot), lv_has ls 6 [(0, .ref a0.1), (1, .int p1), (2, .int p2)] → W p l e (headSpec wsX4_drawnWorth rm_X4_drawnWorth).room s m args below meth c H locs 0 0 Q (F0 m 0 ls []) := by
    intro H locs hP hD hS ls hl
    refine lv_iload_n hx hb dX4_drawnWorth_0 rfl (lv_at hl 2 rfl) ?_
    refine lv_istore_n (lv' := [(3, .int p2), (0, .ref a0.1), (1, .int p1), (2, .int p2)]) hx hb dX4_drawnWorth_1 rfl hl (by decide) rfl (fun ls hl => ?_)
    refine lv_iconst (v := 0) hx hb dX4_drawnWorth_2 (by decide) ?_
    refine lv_istore (lv' := [(4, .int 0), (3, .int p2), (0, .ref a0.1), (1, .int p1), (2, .int p2)]) hx hb dX4_drawnWorth_3 hl (by decide) rfl (fun ls hl => ?_)
    refine lv_iconst (v := 0) hx hb dX4_drawnWorth_5 (by decide) ?_
    refine lv_istore (lv' := [(5, .int 0), (4, .int 0), (3, .int p2), (0, .ref a0.1), (1, .int p1), (2, .int p2)]) hx hb dX4_drawnWorth_6 hl (by decide) rfl (fun ls hl => ?_)
    exact blk8 4096 _ _ _ _ hf _ _ hP hD hS _ (lv_sub hl [3, 4, 2, 1, 0] rfl)
  exact go _ _ hP hD hS _ hl
abbrev rm_X4_daysUntil : Room := { frames := 4, cells := 0, slots := 0, locals := 93 }
set_option maxHeartbeats 4000000 in
set_option maxRecDepth 100000 in
theorem c_X4_daysUntil (l : Launch) (G : zG) (a0 : AT_X4) (sz : Nat) (S0 : ST_X4) (p1 : Int32) (p2 : Int32) (out : Int32) (hf : f_X4_daysUntil S0 p1 p2 = some out) : Met l yX4_daysUntil wsX4_daysUntil rm_X4_daysUntil (PcM G (ce_X4 G.2.1 a0 S0) [.ref a0.1, .int p1, .int p2] sz) (QRo G (ce_X4 G.2.1 a0 S0) out (va_A (ce_X4 G.2.1 a0 S0) sz)) 0 0 (va_A (ce_X4 G.2.1 a0 S0) sz) := by
  rw [f_X4_daysUntil] at hf
  refine Met.ofW (cc := cX4_daysUntil) (maxL := 5) (ret := (some .int)) (by decide) rfl ?_
  intro p e s m args below meth c s₁ B hml hv
  obtain ⟨hargs, hsz, hP, hK, hD0, hE⟩ := hv
  have hx := B.exec
  have hb := B.bytes
  have hr := B.returns
  have hts := atoms_spec (ws := wsX4_daysUntil) B.pre
  have hown : s.vm.findClass RX4 = some m.cls := findClass_of_methodNamed B.named
  have hlocks := B.notSynchronized
  subst hsz
  have hD := hD0.self (sz := s.heap.size)
  generalize hAe : va_A (ce_X4 G.2.1 a0 S0) s.heap.size = A at hD hE ⊢
  have hA : ∀ q : Nat, s.heap.size ≤ q → A q := fun q h => by rw [← hAe]; exact Or.inr h
  have hS : va_S A s.heap s.heap [] := va_S.rf
  have hl := lv_entry ([.ref a0.1, .int p1, .int p2]) (n := 5) (Nat.le_of_ble_eq_true rfl)
  have hent : entryFrame m args 5 = F0 m 0 ((lg_sl ([.ref a0.1, .int p1, .int p2]) ++ List.replicate (5 - (lg_sl ([.ref a0.1, .int p1, .int p2])).length) Slot.unset).toArray) [] := by rw [hargs, lg_entry_eq]
  rw [hent]
  clear hent
  generalize (lg_sl ([.ref a0.1, .int p1, .int p2]) ++ List.replicate (5 - (lg_sl ([.ref a0.1, .int p1, .int p2])).length) Slot.unset).toArray = ls at hl ⊢
  have hl : lv_has ls 5 [(0, .ref a0.1), (1, .int p1), (2, .int p2)] := hl
  have lk0 := hts (Cond.fieldLink RX4 12 "EnginesOnList$World" "fleet" "LEnginesOnList$Fleet;") (List.mem_of_getElem? (i := 1) rfl)
  have lk1 := hts (Cond.fieldLink RX4 32 "EnginesOnList$World" "today" "I") (List.mem_of_getElem? (i := 2) rfl)
  have lk2 := hts (Cond.initialized RX1) (List.mem_of_getElem? (i := 4) rfl)
  have lk3 := hts (Cond.instanceMethod yX1_placeOn) (List.mem_of_getElem? (i := 3) rfl)
  have lk4 := hts (Cond.selects RX1 yX1_placeOn yX1_placeOn) (List.mem_of_getElem? (i := 5) rfl)
  have hinX4 : ∀ w ∈ wsX40, w ∈ wsX4_daysUntil := by decide +kernel
  have fin : ∀ (pc : Nat) (v : Int32) (H : Heap) (locs : List Loc) (ls : Array Slot), some v = some out → va_P G.1 vwCl (ce_X4 G.2.1 a0 S0) H → va_D A (ce_X4 G.2.1 a0 S0) → va_S A s.heap H locs → decode cX4_daysUntil pc = .ok (.ireturn, 1) → W p l e (headSpec wsX4_daysUntil rm_X4_daysUntil).room s m args below meth c H locs 0 0 (MQ below (QRo G (ce_X4 G.2.1 a0 S0) out A) args s 0 0 A) (F0 m pc ls [.int v]) := fun pc v H locs ls ho hP hD hS hd => W.iret (v := v) hx hb hr (fun t ht hW => ⟨⟨v, (), rfl, Option.some.inj ho, by first | (rw [ht]; exact hP) | (dsimp only; rw [ht]; exact hP)⟩, hS.F ht⟩) hS.2.2 hd
  generalize MQ below (QRo G (ce_X4 G.2.1 a0 S0) out A) args s 0 0 A = Q at fin ⊢
  have blk45 : ∀ (v3 : Int32), f_X4_daysUntil_b45 S0 v3 = some out → ∀ (H : Heap) (locs : List Loc), va_P G.1 vwCl (ce_X4 G.2.1 a0 S0) H → va_D A (ce_X4 G.2.1 a0 S0) → va_S A s.heap H locs → ∀ (ls : Array Slot), lv_has ls 5 [(3, .int v3)] → W p l e (headSpec wsX4_daysUntil rm_X4_daysUntil).room s m args below meth c H locs 0 0 Q (F0 m 45 ls []) := by
    intro v3 hf H locs hP hD hS ls hl
    rw [f_X4_daysUntil_b45] at hf
    refine lv_iload_n hx hb dX4_daysUntil_45 rfl (lv_at hl 0 rfl) ?_
    exact fin _ _ _ _ _ hf hP hD hS dX4_daysUntil_46
  have blk2 : ∀ (fu2 : Nat), ∀ (v1 : Int32) (v2 : Int32) (v3 : Int32), f_X4_daysUntil_b2 S0 fu2 v1 v2 v3 = some out → ∀ (H : Heap) (locs : List Loc), va_P G.1 vwCl (ce_X4 G.2.1 a0 S0) H → va_D A (ce_X4 G.2.1 a0 S0) → va_S A s.heap H locs → ∀ (ls : Array Slot), lv_has ls 5 [(0, .ref a0.1), (1, .int v1), (2, .int v2), (3, .int v3)] → W p l e (headSpec wsX4_daysUntil rm_X4_daysUntil).room s m args below meth c H locs 0 0 Q (F0 m 2 ls []) := by
    intro fu2
    induction fu2 with
    | zero => intro v1 v2 v3 hf; exact ob_none hf
    | succ fu2 ih2 =>
      intro v1 v2 v3 hf H locs hP hD hS ls hl
      rw [f_X4_daysUntil_b2] at hf
      have blk47 : ∀ (v1 : Int32) (v2 : Int32) (v3 : Int32), f_X4_daysUntil_b47 S0 (f_X4_daysUntil_b2 S0 fu2) v1 v2 v3 = some out → ∀ (H : Heap) (locs : List Loc), va_P G.1 vwCl (ce_X4 G.2.1 a0 S0) H → va_D A (ce_X4 G.2.1 a0 S0) → va_S A s.heap H locs → ∀ (ls : Array Slot), lv_has ls 5 [(0, .ref a0.1), (1, .int v1), (2, .int v2), (3, .int v3)] → W p l e (headSpec wsX4_daysUntil rm_X4_daysUntil).room s m args below meth c H locs 0 0 Q (F0 m 47 ls []) := by
        intro v1 v2 v3 hf H locs hP hD hS ls hl
        rw [f_X4_daysUntil_b47] at hf
        refine lv_iinc (v := v3 + 1) (lv' := [(3, .int (v3 + 1)), (0, .ref a0.1), (1, .int v1), (2, .int v2)]) hx hb dX4_daysUntil_47 hl (k := 3) rfl rfl (by decide) rfl (fun ls hl => ?_)
        refine lv_goto (tgt := 2) hx hb dX4_daysUntil_50 (by decide) ?_
        exact ih2 _ _ _ hf _ _ hP hD hS _ (lv_sub hl [1, 2, 3, 0] rfl)
      refine lv_iload_n hx hb dX4_daysUntil_2 rfl (lv_at hl 3 rfl) ?_
      refine lv_bipush (v := 60) hx hb dX4_daysUntil_3 (by decide) ?_
      refine lv_icmp_gt (tgt := 53) hx hb dX4_daysUntil_5 (by decide) (fun c1 => ?_) (fun c1 => ?_)
      · replace hf := ob_pos c1 hf
        refine lv_bipush (v := (-9)) hx hb dX4_daysUntil_53 (by decide) ?_
        exact fin _ _ _ _ _ hf hP hD hS dX4_daysUntil_55
      · replace hf := ob_neg c1 hf
        refine lv_aload_n hx hb dX4_daysUntil_8 rfl (lv_at hl 0 rfl) ?_
        refine va_get (D := G.1) (ci := 4) (v := .ref a0.2.1.1) (C := RX4) (T := TX4) (N := 3) hx hb hts hinX4 hown hK hP 0 rfl rfl 0 (by decide) lk0 (fun _ h9 => h9) rfl dX4_daysUntil_9 ?_
        refine lv_iload_n hx hb dX4_daysUntil_12 rfl (lv_at hl 1 rfl) ?_
        refine lv_aload_n hx hb dX4_daysUntil_13 rfl (lv_at hl 0 rfl) ?_
        refine va_get (D := G.1) (ci := 4) (v := .int S0.2.2) (C := RX4) (T := TX4) (N := 3) hx hb hts hinX4 hown hK hP 0 rfl rfl 2 (by decide) lk1 (fun _ h9 => h9) rfl dX4_daysUntil_14 ?_
        refine lv_iload_n hx hb dX4_daysUntil_17 rfl (lv_at hl 3 rfl) ?_
        refine lv_iadd hx hb dX4_daysUntil_18 ?_
        obtain ⟨r2, hr2, hf⟩ := ob_bind hf
        have hPc : va_P G.1 vwCl (ce_X1 G.2.1 a0.2.1 S0.1) H := hP.sub [1, 2, 3, 4, 5, 6] rfl
        have hDc : va_D A (ce_X1 G.2.1 a0.2.1 S0.1) := hD.sub [1, 2, 3, 4, 5, 6] (by decide) rfl
        have hFc := va_free (wc := ce_X1 G.2.1 a0.2.1 S0.1) hD hS hA [1, 2, 3, 4, 5, 6] rfl
        refine zc_ro (va_runVN (As := [.int v1, .int (S0.2.2 + v3)]) (rest := []) ⟨hx, hb, hml, hown, hts⟩ (c_X1_placeOn l G a0.2.1 H.size S0.1 v1 (S0.2.2 + v3) _ hr2) (⟨va_cnB 2 hts gX4_daysUntil_X1_placeOn_n53 rfl rfl rfl (hE.1 _ nw_52) lk2 (by decide +kernel) ⟨Nat.le_of_ble_eq_true rfl, Nat.le_of_ble_eq_true rfl⟩, lk3, lk4⟩) ⟨PcM.blind, va_recv hK hPc (ci := 1) (q0 := 0) rfl rfl, PcM.ok hPc hDc hK hE hS hFc⟩ rfl rfl hl.1 rfl (lv_room (Nat.le_of_ble_eq_true rfl)) dX4_daysUntil_19 ⟨Nat.le_refl _, Nat.le_refl _⟩) hP hD hS hA [1, 2, 3, 4, 5, 6] rfl (fun H locs hP hS => ?_)
        refine lv_istore (lv' := [(4, .int r2), (0, .ref a0.1), (1, .int v1), (2, .int v2), (3, .int v3)]) hx hb dX4_daysUntil_22 hl (by decide) rfl (fun ls hl => ?_)
        refine lv_iload_n hx hb dX4_daysUntil_24 rfl (lv_at hl 3 rfl) ?_
        refine lv_iconst (v := (-1)) hx hb dX4_daysUntil_25 (by decide) ?_
        refine lv_icmp_ne (tgt := 39) hx hb dX4_daysUntil_26 (by decide) (fun c3 => ?_) (fun c3 => ?_)
        · replace hf := ob_neg c3 hf
          refine lv_iload hx hb dX4_daysUntil_39 (lv_at hl 0 rfl) ?_
          refine lv_iload_n hx hb dX4_daysUntil_41 rfl (lv_at hl 3 rfl) ?_
          refine lv_icmp_ne (tgt := 47) hx hb dX4_daysUntil_42 (by decide) (fun c4 => ?_) (fun c4 => ?_)
          · replace hf := ob_neg c4 hf
            exact blk47 _ _ _ hf _ _ hP hD hS _ (lv_sub hl [1, 2, 3, 4] rfl)
          · replace hf := ob_pos c4 hf
            exact blk45 _ hf _ _ hP hD hS _ (lv_sub hl [4] rfl)
        · replace hf := ob_pos c3 hf
          refine lv_iload hx hb dX4_daysUntil_29 (lv_at hl 0 rfl) ?_
          refine lv_bipush (v := 9) hx hb dX4_daysUntil_31 (by decide) ?_
          refine lv_icmp_eq (tgt := 47) hx hb dX4_daysUntil_33 (by decide) (fun c5 => ?_) (fun c5 => ?_)
          · replace hf := ob_pos c5 hf
            exact blk47 _ _ _ hf _ _ hP hD hS _ (lv_sub hl [1, 2, 3, 4] rfl)
          · replace hf := ob_neg c5 hf
            refine lv_goto (tgt := 45) hx hb dX4_daysUntil_36 (by decide) ?_
            exact blk45 _ hf _ _ hP hD hS _ (lv_sub hl [4] rfl)
  have go : ∀ (H : Heap) (locs : List Loc), va_P G.1 vwCl (ce_X4 G.2.1 a0 S0) H → va_D A (ce_X4 G.2.1 a0 S0) → va_S A s.heap H locs → ∀ (ls : Array Slot), lv_has ls 5 [(0, .ref a0.1), (1, .int p1), (2, .int p2)] → W p l e (headSpec wsX4_daysUntil rm_X4_daysUntil).room s m args below meth c H locs 0 0 Q (F0 m 0 ls []) := by
    intro H locs hP hD hS ls hl
    refine lv_iconst (v := 0) hx hb dX4_daysUntil_0 (by decide) ?_
    refine lv_istore_n (lv' := [(3, .int 0), (0, .ref a0.1), (1, .int p1), (2, .int p2)]) hx hb dX4_daysUntil_1 rfl hl (by decide) rfl (fun ls hl => ?_)
    exact blk2 4096 _ _ _ hf _ _ hP hD hS _ (lv_sub hl [1, 2, 3, 0] rfl)
  exact go _ _ hP hD hS _ hl
abbrev rm_X4_everWorth : Room := { frames := 5, cells := 0, slots := 0, locals := 117 }
set_option maxHeartbeats 4000000 in
set_option maxRecDepth 100000 in
theorem c_X4_everWorth (l : Launch) (G : zG) (a0 : AT_X4) (sz : Nat) (S0 : ST_X4) (out : Int32) (hf : f_X4_everWorth S0 = some out) : Met l yX4_everWorth wsX4_everWorth rm_X4_everWorth (PcM G (ce_X4 G.2.1 a0 S0) [.ref a0.1] sz) (QRo G (ce_X4 G.2.1 a0 S0) out (va_A (ce_X4 G.2.1 a0 S0) sz)) 0 0 (va_A (ce_X4 G.2.1 a0 S0) sz) := by
  rw [f_X4_everWorth] at hf
  refine Met.ofW (cc := cX4_everWorth) (maxL := 3) (ret := (some .int)) (by decide) rfl ?_
  intro p e s m args below meth c s₁ B hml hv
  obtain ⟨hargs, hsz, hP, hK, hD0, hE⟩ := hv
  have hx := B.exec
  have hb := B.bytes
  have hr := B.returns
  have hts := atoms_spec (ws := wsX4_everWorth) B.pre
  have hown : s.vm.findClass RX4 = some m.cls := findClass_of_methodNamed B.named
  have hlocks := B.notSynchronized
  subst hsz
  have hD := hD0.self (sz := s.heap.size)
  generalize hAe : va_A (ce_X4 G.2.1 a0 S0) s.heap.size = A at hD hE ⊢
  have hA : ∀ q : Nat, s.heap.size ≤ q → A q := fun q h => by rw [← hAe]; exact Or.inr h
  have hS : va_S A s.heap s.heap [] := va_S.rf
  have hl := lv_entry ([.ref a0.1]) (n := 3) (Nat.le_of_ble_eq_true rfl)
  have hent : entryFrame m args 3 = F0 m 0 ((lg_sl ([.ref a0.1]) ++ List.replicate (3 - (lg_sl ([.ref a0.1])).length) Slot.unset).toArray) [] := by rw [hargs, lg_entry_eq]
  rw [hent]
  clear hent
  generalize (lg_sl ([.ref a0.1]) ++ List.replicate (3 - (lg_sl ([.ref a0.1])).length) Slot.unset).toArray = ls at hl ⊢
  have hl : lv_has ls 3 [(0, .ref a0.1)] := hl
  have lk0 := hts (Cond.fieldLink RX4 12 "EnginesOnList$World" "fleet" "LEnginesOnList$Fleet;") (List.mem_of_getElem? (i := 1) rfl)
  have lk1 := va_Nw.use (A := args) rfl (hE.1 _ nw_4)
  have lk2 := hts (Cond.initialized RX1) (List.mem_of_getElem? (i := 9) rfl)
  have lk3 := hts (Cond.instanceMethod yX1_newOf) (List.mem_of_getElem? (i := 27) rfl)
  have lk4 := hts (Cond.selects RX1 yX1_newOf yX1_newOf) (List.mem_of_getElem? (i := 28) rfl)
  have lk5 := hts (Cond.instanceMethod yX1_worth) (List.mem_of_getElem? (i := 45) rfl)
  have lk6 := hts (Cond.selects RX1 yX1_worth yX1_worth) (List.mem_of_getElem? (i := 46) rfl)
  have lk7 := hts (Cond.instanceMethod yX1_bit) (List.mem_of_getElem? (i := 24) rfl)
  have lk8 := hts (Cond.selects RX1 yX1_bit yX1_bit) (List.mem_of_getElem? (i := 25) rfl)
  have hinX4 : ∀ w ∈ wsX40, w ∈ wsX4_everWorth := by decide +kernel
  have hinX1 : ∀ w ∈ wsX10, w ∈ wsX4_everWorth := by decide +kernel
  have fin : ∀ (pc : Nat) (v : Int32) (H : Heap) (locs : List Loc) (ls : Array Slot), some v = some out → va_P G.1 vwCl (ce_X4 G.2.1 a0 S0) H → va_D A (ce_X4 G.2.1 a0 S0) → va_S A s.heap H locs → decode cX4_everWorth pc = .ok (.ireturn, 1) → W p l e (headSpec wsX4_everWorth rm_X4_everWorth).room s m args below meth c H locs 0 0 (MQ below (QRo G (ce_X4 G.2.1 a0 S0) out A) args s 0 0 A) (F0 m pc ls [.int v]) := fun pc v H locs ls ho hP hD hS hd => W.iret (v := v) hx hb hr (fun t ht hW => ⟨⟨v, (), rfl, Option.some.inj ho, by first | (rw [ht]; exact hP) | (dsimp only; rw [ht]; exact hP)⟩, hS.F ht⟩) hS.2.2 hd
  generalize MQ below (QRo G (ce_X4 G.2.1 a0 S0) out A) args s 0 0 A = Q at fin ⊢
  have blk4 : ∀ (fu4 : Nat), ∀ (v1 : Int32) (v2 : Int32), f_X4_everWorth_b4 S0 fu4 v1 v2 = some out → ∀ (H : Heap) (locs : List Loc), va_P G.1 vwCl (ce_X4 G.2.1 a0 S0) H → va_D A (ce_X4 G.2.1 a0 S0) → va_S A s.heap H locs → ∀ (ls : Array Slot), lv_has ls 3 [(0, .ref a0.1), (1, .int v1), (2, .int v2)] → W p l e (headSpec wsX4_everWorth rm_X4_everWorth).room s m args below meth c H locs 0 0 Q (F0 m 4 ls []) := by
    intro fu4
    induction fu4 with
    | zero => intro v1 v2 hf; exact ob_none hf
    | succ fu4 ih4 =>
      intro v1 v2 hf H locs hP hD hS ls hl
      rw [f_X4_everWorth_b4] at hf
      have blk37 : ∀ (v1 : Int32) (v2 : Int32), f_X4_everWorth_b37 S0 (f_X4_everWorth_b4 S0 fu4) v1 v2 = some out → ∀ (H : Heap) (locs : List Loc), va_P G.1 vwCl (ce_X4 G.2.1 a0 S0) H → va_D A (ce_X4 G.2.1 a0 S0) → va_S A s.heap H locs → ∀ (ls : Array Slot), lv_has ls 3 [(0, .ref a0.1), (1, .int v1), (2, .int v2)] → W p l e (headSpec wsX4_everWorth rm_X4_everWorth).room s m args below meth c H locs 0 0 Q (F0 m 37 ls []) := by
        intro v1 v2 hf H locs hP hD hS ls hl
        rw [f_X4_everWorth_b37] at hf
        refine lv_iinc (v := v2 + 1) (lv' := [(2, .int (v2 + 1)), (0, .ref a0.1), (1, .int v1)]) hx hb dX4_everWorth_37 hl (k := 2) rfl rfl (by decide) rfl (fun ls hl => ?_)
        refine lv_goto (tgt := 4) hx hb dX4_everWorth_40 (by decide) ?_
        exact ih4 _ _ hf _ _ hP hD hS _ (lv_sub hl [1, 2, 0] rfl)
      refine lv_iload_n hx hb dX4_everWorth_4 rfl (lv_at hl 2 rfl) ?_
      refine lv_aload_n hx hb dX4_everWorth_5 rfl (lv_at hl 0 rfl) ?_
      refine va_get (D := G.1) (ci := 4) (v := .ref a0.2.1.1) (C := RX4) (T := TX4) (N := 3) hx hb hts hinX4 hown hK hP 0 rfl rfl 0 (by decide) lk0 (fun _ h9 => h9) rfl dX4_everWorth_6 ?_
      refine va_getN (D := G.1) (ci := 1) (v := .int S0.1.2.2.2.2.2.1) (C := RX1) (T := TX1) (N := 9) hx hb hts hinX1 hown hK hP 1 rfl rfl 5 (by decide) lk1 (fun _ h9 => h9) rfl dX4_everWorth_9 ?_
      refine lv_icmp_ge (tgt := 43) hx hb dX4_everWorth_12 (by decide) (fun c1 => ?_) (fun c1 => ?_)
      · replace hf := ob_pos c1 hf
        refine lv_aload_n hx hb dX4_everWorth_43 rfl (lv_at hl 0 rfl) ?_
        refine va_get (D := G.1) (ci := 4) (v := .ref a0.2.1.1) (C := RX4) (T := TX4) (N := 3) hx hb hts hinX4 hown hK hP 0 rfl rfl 0 (by decide) lk0 (fun _ h9 => h9) rfl dX4_everWorth_44 ?_
        refine lv_aload_n hx hb dX4_everWorth_47 rfl (lv_at hl 0 rfl) ?_
        refine va_get (D := G.1) (ci := 4) (v := .ref a0.2.1.1) (C := RX4) (T := TX4) (N := 3) hx hb hts hinX4 hown hK hP 0 rfl rfl 0 (by decide) lk0 (fun _ h9 => h9) rfl dX4_everWorth_48 ?_
        refine lv_iload_n hx hb dX4_everWorth_51 rfl (lv_at hl 1 rfl) ?_
        obtain ⟨r2, hr2, hf⟩ := ob_bind hf
        have hPc : va_P G.1 vwCl (ce_X1 G.2.1 a0.2.1 S0.1) H := hP.sub [1, 2, 3, 4, 5, 6] rfl
        have hDc : va_D A (ce_X1 G.2.1 a0.2.1 S0.1) := hD.sub [1, 2, 3, 4, 5, 6] (by decide) rfl
        have hFc := va_free (wc := ce_X1 G.2.1 a0.2.1 S0.1) hD hS hA [1, 2, 3, 4, 5, 6] rfl
        refine zc_ro (va_runVN (As := [.int v1]) (rest := [.ref a0.2.1.1]) ⟨hx, hb, hml, hown, hts⟩ (c_X1_newOf l G a0.2.1 H.size S0.1 v1 _ hr2) (⟨va_cnB 1 hts gX4_everWorth_X1_newOf_n40 rfl rfl rfl (hE.1 _ nw_46) lk2 (by decide +kernel) ⟨Nat.le_of_ble_eq_true rfl, Nat.le_of_ble_eq_true rfl⟩, lk3, lk4⟩) ⟨PcM.blind, va_recv hK hPc (ci := 1) (q0 := 0) rfl rfl, PcM.ok hPc hDc hK hE hS hFc⟩ rfl rfl hl.1 rfl (lv_room (Nat.le_of_ble_eq_true rfl)) dX4_everWorth_52 ⟨Nat.le_refl _, Nat.le_refl _⟩) hP hD hS hA [1, 2, 3, 4, 5, 6] rfl (fun H locs hP hS => ?_)
        obtain ⟨r3, hr3, hf⟩ := ob_bind hf
        have hPc : va_P G.1 vwCl (ce_X1 G.2.1 a0.2.1 S0.1) H := hP.sub [1, 2, 3, 4, 5, 6] rfl
        have hDc : va_D A (ce_X1 G.2.1 a0.2.1 S0.1) := hD.sub [1, 2, 3, 4, 5, 6] (by decide) rfl
        have hFc := va_free (wc := ce_X1 G.2.1 a0.2.1 S0.1) hD hS hA [1, 2, 3, 4, 5, 6] rfl
        refine zc_ro (va_runVN (As := [.int r2]) (rest := []) ⟨hx, hb, hml, hown, hts⟩ (c_X1_worth l G a0.2.1 H.size S0.1 r2 _ hr3) (⟨va_cnB 1 hts gX4_everWorth_X1_worth_n47 rfl rfl rfl (hE.1 _ nw_47) lk2 (by decide +kernel) ⟨Nat.le_of_ble_eq_true rfl, Nat.le_of_ble_eq_true rfl⟩, lk5, lk6⟩) ⟨PcM.blind, va_recv hK hPc (ci := 1) (q0 := 0) rfl rfl, PcM.ok hPc hDc hK hE hS hFc⟩ rfl rfl hl.1 rfl (lv_room (Nat.le_of_ble_eq_true rfl)) dX4_everWorth_55 ⟨Nat.le_refl _, Nat.le_refl _⟩) hP hD hS hA [1, 2, 3, 4, 5, 6] rfl (fun H locs hP hS => ?_)
        exact fin _ _ _ _ _ hf hP hD hS dX4_everWorth_58
      · replace hf := ob_neg c1 hf
        refine lv_aload_n hx hb dX4_everWorth_15 rfl (lv_at hl 0 rfl) ?_
        refine lv_iload_n hx hb dX4_everWorth_16 rfl (lv_at hl 2 rfl) ?_
        refine lv_iconst (v := (-1)) hx hb dX4_everWorth_17 (by decide) ?_
        obtain ⟨r4, hr4, hf⟩ := ob_bind hf
        have hFc := va_free (wc := ce_X4 G.2.1 a0 S0) hD hS hA [0, 1, 2, 3, 4, 5, 6, 7, 8, 9, 10, 11] rfl
        refine zc_ro (va_runV (As := [.int v2, .int (-1)]) (rest := []) ⟨hx, hb, hml, hown, hts⟩ (c_X4_daysUntil l G a0 H.size S0 v2 (-1) _ hr4) (cwV 2 hts gX4_everWorth_X4_daysUntil rfl rfl rfl (by decide +kernel) ⟨Nat.le_of_ble_eq_true rfl, Nat.le_of_ble_eq_true rfl⟩) ⟨PcM.blind, va_recv hK hP (ci := 4) (q0 := 0) rfl rfl, PcM.ok hP hD hK hE hS hFc⟩ rfl rfl hl.1 rfl (lv_room (Nat.le_of_ble_eq_true rfl)) dX4_everWorth_18 ⟨Nat.le_refl _, Nat.le_refl _⟩) hP hD hS hA [0, 1, 2, 3, 4, 5, 6, 7, 8, 9, 10, 11] rfl (fun H locs hP hS => ?_)
        refine lv_bipush (v := (-9)) hx hb dX4_everWorth_21 (by decide) ?_
        refine lv_icmp_eq (tgt := 37) hx hb dX4_everWorth_23 (by decide) (fun c5 => ?_) (fun c5 => ?_)
        · replace hf := ob_pos c5 hf
          exact blk37 _ _ hf _ _ hP hD hS _ (lv_sub hl [0, 1, 2] rfl)
        · replace hf := ob_neg c5 hf
          refine lv_iload_n hx hb dX4_everWorth_26 rfl (lv_at hl 1 rfl) ?_
          refine lv_aload_n hx hb dX4_everWorth_27 rfl (lv_at hl 0 rfl) ?_
          refine va_get (D := G.1) (ci := 4) (v := .ref a0.2.1.1) (C := RX4) (T := TX4) (N := 3) hx hb hts hinX4 hown hK hP 0 rfl rfl 0 (by decide) lk0 (fun _ h9 => h9) rfl dX4_everWorth_28 ?_
          refine lv_iload_n hx hb dX4_everWorth_31 rfl (lv_at hl 2 rfl) ?_
          obtain ⟨r6, hr6, hf⟩ := ob_bind hf
          have hPc : va_P G.1 vwCl (ce_X1 G.2.1 a0.2.1 S0.1) H := hP.sub [1, 2, 3, 4, 5, 6] rfl
          have hDc : va_D A (ce_X1 G.2.1 a0.2.1 S0.1) := hD.sub [1, 2, 3, 4, 5, 6] (by decide) rfl
          have hFc := va_free (wc := ce_X1 G.2.1 a0.2.1 S0.1) hD hS hA [1, 2, 3, 4, 5, 6] rfl
          refine zc_ro (va_runVN (As := [.int v2]) (rest := [.int v1]) ⟨hx, hb, hml, hown, hts⟩ (c_X1_bit l G a0.2.1 H.size S0.1 v2 _ hr6) (⟨va_cnB 1 hts gX4_everWorth_X1_bit_n62 rfl rfl rfl (hE.1 _ nw_54) lk2 (by decide +kernel) ⟨Nat.le_of_ble_eq_true rfl, Nat.le_of_ble_eq_true rfl⟩, lk7, lk8⟩) ⟨PcM.blind, va_recv hK hPc (ci := 1) (q0 := 0) rfl rfl, PcM.ok hPc hDc hK hE hS hFc⟩ rfl rfl hl.1 rfl (lv_room (Nat.le_of_ble_eq_true rfl)) dX4_everWorth_32 ⟨Nat.le_refl _, Nat.le_refl _⟩) hP hD hS hA [1, 2, 3, 4, 5, 6] rfl (fun H locs hP hS => ?_)
          refine lv_ior hx hb dX4_everWorth_35 ?_
          refine lv_istore_n (lv' := [(1, .int (v1 ||| r6)), (0, .ref a0.1), (2, .int v2)]) hx hb dX4_everWorth_36 rfl hl (by decide) rfl (fun ls hl => ?_)
          exact blk37 _ _ hf _ _ hP hD hS _ (lv_sub hl [1, 0, 2] rfl)
  have go : ∀ (H : Heap) (locs : List Loc), va_P G.1 vwCl (ce_X4 G.2.1 a0 S0) H → va_D A (ce_X4 G.2.1 a0 S0) → va_S A s.heap H locs → ∀ (ls : Array Slot), lv_has ls 3 [(0, .ref a0.1)] → W p l e (headSpec wsX4_everWorth rm_X4_everWorth).room s m args below meth c H locs 0 0 Q (F0 m 0 ls []) := by
    intro H locs hP hD hS ls hl
    refine lv_iconst (v := 0) hx hb dX4_everWorth_0 (by decide) ?_
    refine lv_istore_n (lv' := [(1, .int 0), (0, .ref a0.1)]) hx hb dX4_everWorth_1 rfl hl (by decide) rfl (fun ls hl => ?_)
    refine lv_iconst (v := 0) hx hb dX4_everWorth_2 (by decide) ?_
    refine lv_istore_n (lv' := [(2, .int 0), (1, .int 0), (0, .ref a0.1)]) hx hb dX4_everWorth_3 rfl hl (by decide) rfl (fun ls hl => ?_)
    exact blk4 4096 _ _ hf _ _ hP hD hS _ (lv_sub hl [2, 1, 0] rfl)
  exact go _ _ hP hD hS _ hl
abbrev rm_X4_goTogether : Room := { frames := 4, cells := 0, slots := 0, locals := 93 }
set_option maxHeartbeats 4000000 in
set_option maxRecDepth 100000 in
theorem c_X4_goTogether (l : Launch) (G : zG) (a0 : AT_X4) (sz : Nat) (S0 : ST_X4) (p1 : Int32) (p2 : Int32) (p3 : Int32) (out : Int32) (hf : f_X4_goTogether S0 p1 p2 p3 = some out) : Met l yX4_goTogether wsX4_goTogether rm_X4_goTogether (PcM G (ce_X4 G.2.1 a0 S0) [.ref a0.1, .int p1, .int p2, .int p3] sz) (QRo G (ce_X4 G.2.1 a0 S0) out (va_A (ce_X4 G.2.1 a0 S0) sz)) 0 0 (va_A (ce_X4 G.2.1 a0 S0) sz) := by
  rw [f_X4_goTogether] at hf
  refine Met.ofW (cc := cX4_goTogether) (maxL := 5) (ret := (some .boolean)) (by decide) rfl ?_
  intro p e s m args below meth c s₁ B hml hv
  obtain ⟨hargs, hsz, hP, hK, hD0, hE⟩ := hv
  have hx := B.exec
  have hb := B.bytes
  have hr := B.returns
  have hts := atoms_spec (ws := wsX4_goTogether) B.pre
  have hown : s.vm.findClass RX4 = some m.cls := findClass_of_methodNamed B.named
  have hlocks := B.notSynchronized
  subst hsz
  have hD := hD0.self (sz := s.heap.size)
  generalize hAe : va_A (ce_X4 G.2.1 a0 S0) s.heap.size = A at hD hE ⊢
  have hA : ∀ q : Nat, s.heap.size ≤ q → A q := fun q h => by rw [← hAe]; exact Or.inr h
  have hS : va_S A s.heap s.heap [] := va_S.rf
  have hl := lv_entry ([.ref a0.1, .int p1, .int p2, .int p3]) (n := 5) (Nat.le_of_ble_eq_true rfl)
  have hent : entryFrame m args 5 = F0 m 0 ((lg_sl ([.ref a0.1, .int p1, .int p2, .int p3]) ++ List.replicate (5 - (lg_sl ([.ref a0.1, .int p1, .int p2, .int p3])).length) Slot.unset).toArray) [] := by rw [hargs, lg_entry_eq]
  rw [hent]
  clear hent
  generalize (lg_sl ([.ref a0.1, .int p1, .int p2, .int p3]) ++ List.replicate (5 - (lg_sl ([.ref a0.1, .int p1, .int p2, .int p3])).length) Slot.unset).toArray = ls at hl ⊢
  have hl : lv_has ls 5 [(0, .ref a0.1), (1, .int p1), (2, .int p2), (3, .int p3)] := hl
  have lk0 := hts (Cond.fieldLink RX4 12 "EnginesOnList$World" "fleet" "LEnginesOnList$Fleet;") (List.mem_of_getElem? (i := 1) rfl)
  have lk1 := hts (Cond.fieldLink RX4 32 "EnginesOnList$World" "today" "I") (List.mem_of_getElem? (i := 2) rfl)
  have lk2 := hts (Cond.initialized RX1) (List.mem_of_getElem? (i := 4) rfl)
  have lk3 := hts (Cond.instanceMethod yX1_placeOn) (List.mem_of_getElem? (i := 3) rfl)
  have lk4 := hts (Cond.selects RX1 yX1_placeOn yX1_placeOn) (List.mem_of_getElem? (i := 5) rfl)
  have hinX4 : ∀ w ∈ wsX40, w ∈ wsX4_goTogether := by decide +kernel
  have fin : ∀ (pc : Nat) (v : Int32) (H : Heap) (locs : List Loc) (ls : Array Slot), some v = some out → narrow .boolean (.int v) = .int v → va_P G.1 vwCl (ce_X4 G.2.1 a0 S0) H → va_D A (ce_X4 G.2.1 a0 S0) → va_S A s.heap H locs → decode cX4_goTogether pc = .ok (.ireturn, 1) → W p l e (headSpec wsX4_goTogether rm_X4_goTogether).room s m args below meth c H locs 0 0 (MQ below (QRo G (ce_X4 G.2.1 a0 S0) out A) args s 0 0 A) (F0 m pc ls [.int v]) := fun pc v H locs ls ho hn hP hD hS hd => W.zret (v := v) hx hb hr hn (fun t ht hW => ⟨⟨v, (), rfl, Option.some.inj ho, by first | (rw [ht]; exact hP) | (dsimp only; rw [ht]; exact hP)⟩, hS.F ht⟩) hS.2.2 hd
  generalize MQ below (QRo G (ce_X4 G.2.1 a0 S0) out A) args s 0 0 A = Q at fin ⊢
  have blk3 : ∀ (fu3 : Nat), ∀ (v1 : Int32) (v2 : Int32) (v3 : Int32) (v4 : Int32), f_X4_goTogether_b3 S0 fu3 v1 v2 v3 v4 = some out → ∀ (H : Heap) (locs : List Loc), va_P G.1 vwCl (ce_X4 G.2.1 a0 S0) H → va_D A (ce_X4 G.2.1 a0 S0) → va_S A s.heap H locs → ∀ (ls : Array Slot), lv_has ls 5 [(0, .ref a0.1), (1, .int v1), (2, .int v2), (3, .int v3), (4, .int v4)] → W p l e (headSpec wsX4_goTogether rm_X4_goTogether).room s m args below meth c H locs 0 0 Q (F0 m 3 ls []) := by
    intro fu3
    induction fu3 with
    | zero => intro v1 v2 v3 v4 hf; exact ob_none hf
    | succ fu3 ih3 =>
      intro v1 v2 v3 v4 hf H locs hP hD hS ls hl
      rw [f_X4_goTogether_b3] at hf
      refine lv_iload hx hb dX4_goTogether_3 (lv_at hl 4 rfl) ?_
      refine lv_iload_n hx hb dX4_goTogether_5 rfl (lv_at hl 3 rfl) ?_
      refine lv_icmp_ge (tgt := 50) hx hb dX4_goTogether_6 (by decide) (fun c1 => ?_) (fun c1 => ?_)
      · replace hf := ob_pos c1 hf
        refine lv_iconst (v := 1) hx hb dX4_goTogether_50 (by decide) ?_
        exact fin _ _ _ _ _ hf rfl hP hD hS dX4_goTogether_51
      · replace hf := ob_neg c1 hf
        refine lv_aload_n hx hb dX4_goTogether_9 rfl (lv_at hl 0 rfl) ?_
        refine va_get (D := G.1) (ci := 4) (v := .ref a0.2.1.1) (C := RX4) (T := TX4) (N := 3) hx hb hts hinX4 hown hK hP 0 rfl rfl 0 (by decide) lk0 (fun _ h9 => h9) rfl dX4_goTogether_10 ?_
        refine lv_iload_n hx hb dX4_goTogether_13 rfl (lv_at hl 1 rfl) ?_
        refine lv_aload_n hx hb dX4_goTogether_14 rfl (lv_at hl 0 rfl) ?_
        refine va_get (D := G.1) (ci := 4) (v := .int S0.2.2) (C := RX4) (T := TX4) (N := 3) hx hb hts hinX4 hown hK hP 0 rfl rfl 2 (by decide) lk1 (fun _ h9 => h9) rfl dX4_goTogether_15 ?_
        refine lv_iload hx hb dX4_goTogether_18 (lv_at hl 4 rfl) ?_
        refine lv_iadd hx hb dX4_goTogether_20 ?_
        obtain ⟨r2, hr2, hf⟩ := ob_bind hf
        have hPc : va_P G.1 vwCl (ce_X1 G.2.1 a0.2.1 S0.1) H := hP.sub [1, 2, 3, 4, 5, 6] rfl
        have hDc : va_D A (ce_X1 G.2.1 a0.2.1 S0.1) := hD.sub [1, 2, 3, 4, 5, 6] (by decide) rfl
        have hFc := va_free (wc := ce_X1 G.2.1 a0.2.1 S0.1) hD hS hA [1, 2, 3, 4, 5, 6] rfl
        refine zc_ro (va_runVN (As := [.int v1, .int (S0.2.2 + v4)]) (rest := []) ⟨hx, hb, hml, hown, hts⟩ (c_X1_placeOn l G a0.2.1 H.size S0.1 v1 (S0.2.2 + v4) _ hr2) (⟨va_cnB 2 hts gX4_goTogether_X1_placeOn_n53 rfl rfl rfl (hE.1 _ nw_52) lk2 (by decide +kernel) ⟨Nat.le_of_ble_eq_true rfl, Nat.le_of_ble_eq_true rfl⟩, lk3, lk4⟩) ⟨PcM.blind, va_recv hK hPc (ci := 1) (q0 := 0) rfl rfl, PcM.ok hPc hDc hK hE hS hFc⟩ rfl rfl hl.1 rfl (lv_room (Nat.le_of_ble_eq_true rfl)) dX4_goTogether_21 ⟨Nat.le_refl _, Nat.le_refl _⟩) hP hD hS hA [1, 2, 3, 4, 5, 6] rfl (fun H locs hP hS => ?_)
        refine lv_aload_n hx hb dX4_goTogether_24 rfl (lv_at hl 0 rfl) ?_
        refine va_get (D := G.1) (ci := 4) (v := .ref a0.2.1.1) (C := RX4) (T := TX4) (N := 3) hx hb hts hinX4 hown hK hP 0 rfl rfl 0 (by decide) lk0 (fun _ h9 => h9) rfl dX4_goTogether_25 ?_
        refine lv_iload_n hx hb dX4_goTogether_28 rfl (lv_at hl 2 rfl) ?_
        refine lv_aload_n hx hb dX4_goTogether_29 rfl (lv_at hl 0 rfl) ?_
        refine va_get (D := G.1) (ci := 4) (v := .int S0.2.2) (C := RX4) (T := TX4) (N := 3) hx hb hts hinX4 hown hK hP 0 rfl rfl 2 (by decide) lk1 (fun _ h9 => h9) rfl dX4_goTogether_30 ?_
        refine lv_iload hx hb dX4_goTogether_33 (lv_at hl 4 rfl) ?_
        refine lv_iadd hx hb dX4_goTogether_35 ?_
        obtain ⟨r3, hr3, hf⟩ := ob_bind hf
        have hPc : va_P G.1 vwCl (ce_X1 G.2.1 a0.2.1 S0.1) H := hP.sub [1, 2, 3, 4, 5, 6] rfl
        have hDc : va_D A (ce_X1 G.2.1 a0.2.1 S0.1) := hD.sub [1, 2, 3, 4, 5, 6] (by decide) rfl
        have hFc := va_free (wc := ce_X1 G.2.1 a0.2.1 S0.1) hD hS hA [1, 2, 3, 4, 5, 6] rfl
        refine zc_ro (va_runVN (As := [.int v2, .int (S0.2.2 + v4)]) (rest := [.int r2]) ⟨hx, hb, hml, hown, hts⟩ (c_X1_placeOn l G a0.2.1 H.size S0.1 v2 (S0.2.2 + v4) _ hr3) (⟨va_cnB 2 hts gX4_goTogether_X1_placeOn_n53 rfl rfl rfl (hE.1 _ nw_52) lk2 (by decide +kernel) ⟨Nat.le_of_ble_eq_true rfl, Nat.le_of_ble_eq_true rfl⟩, lk3, lk4⟩) ⟨PcM.blind, va_recv hK hPc (ci := 1) (q0 := 0) rfl rfl, PcM.ok hPc hDc hK hE hS hFc⟩ rfl rfl hl.1 rfl (lv_room (Nat.le_of_ble_eq_true rfl)) dX4_goTogether_36 ⟨Nat.le_refl _, Nat.le_refl _⟩) hP hD hS hA [1, 2, 3, 4, 5, 6] rfl (fun H locs hP hS => ?_)
        refine lv_icmp_eq (tgt := 44) hx hb dX4_goTogether_39 (by decide) (fun c4 => ?_) (fun c4 => ?_)
        · replace hf := ob_pos c4 hf
          refine lv_iinc (v := v4 + 1) (lv' := [(4, .int (v4 + 1)), (0, .ref a0.1), (1, .int v1), (2, .int v2), (3, .int v3)]) hx hb dX4_goTogether_44 hl (k := 4) rfl rfl (by decide) rfl (fun ls hl => ?_)
          refine lv_goto (tgt := 3) hx hb dX4_goTogether_47 (by decide) ?_
          exact ih3 _ _ _ _ hf _ _ hP hD hS _ (lv_sub hl [1, 2, 3, 4, 0] rfl)
        · replace hf := ob_neg c4 hf
          refine lv_iconst (v := 0) hx hb dX4_goTogether_42 (by decide) ?_
          exact fin _ _ _ _ _ hf rfl hP hD hS dX4_goTogether_43
  have go : ∀ (H : Heap) (locs : List Loc), va_P G.1 vwCl (ce_X4 G.2.1 a0 S0) H → va_D A (ce_X4 G.2.1 a0 S0) → va_S A s.heap H locs → ∀ (ls : Array Slot), lv_has ls 5 [(0, .ref a0.1), (1, .int p1), (2, .int p2), (3, .int p3)] → W p l e (headSpec wsX4_goTogether rm_X4_goTogether).room s m args below meth c H locs 0 0 Q (F0 m 0 ls []) := by
    intro H locs hP hD hS ls hl
    refine lv_iconst (v := 0) hx hb dX4_goTogether_0 (by decide) ?_
    refine lv_istore (lv' := [(4, .int 0), (0, .ref a0.1), (1, .int p1), (2, .int p2), (3, .int p3)]) hx hb dX4_goTogether_1 hl (by decide) rfl (fun ls hl => ?_)
    exact blk3 4096 _ _ _ _ hf _ _ hP hD hS _ (lv_sub hl [1, 2, 3, 4, 0] rfl)
  exact go _ _ hP hD hS _ hl
abbrev rm_X4_blurredFigure : Room := { frames := 1, cells := 0, slots := 0, locals := 24 }
set_option maxHeartbeats 4000000 in
set_option maxRecDepth 100000 in
theorem c_X4_blurredFigure (l : Launch) (G : zG) (sz : Nat) (p0 : Int32) (out : Int32) (hf : f_X4_blurredFigure p0 = some out) : Met l yX4_blurredFigure wsX4_blurredFigure rm_X4_blurredFigure (PcM G (([] : va_W)) [.int p0] sz) (QRo G (([] : va_W)) out (va_A (([] : va_W)) sz)) 0 0 (va_A (([] : va_W)) sz) := by
  rw [f_X4_blurredFigure] at hf
  refine Met.ofW (cc := cX4_blurredFigure) (maxL := 1) (ret := (some .int)) (by decide) rfl ?_
  intro p e s m args below meth c s₁ B hml hv
  obtain ⟨hargs, hsz, hP, hK, hD0, hE⟩ := hv
  have hx := B.exec
  have hb := B.bytes
  have hr := B.returns
  have hts := atoms_spec (ws := wsX4_blurredFigure) B.pre
  have hown : s.vm.findClass RX4 = some m.cls := findClass_of_methodNamed B.named
  have hlocks := B.notSynchronized
  subst hsz
  have hD := hD0.self (sz := s.heap.size)
  generalize hAe : va_A (([] : va_W)) s.heap.size = A at hD hE ⊢
  have hA : ∀ q : Nat, s.heap.size ≤ q → A q := fun q h => by rw [← hAe]; exact Or.inr h
  have hS : va_S A s.heap s.heap [] := va_S.rf
  have hl := lv_entry ([.int p0]) (n := 1) (Nat.le_of_ble_eq_true rfl)
  have hent : entryFrame m args 1 = F0 m 0 ((lg_sl ([.int p0]) ++ List.replicate (1 - (lg_sl ([.int p0])).length) Slot.unset).toArray) [] := by rw [hargs, lg_entry_eq]
  rw [hent]
  clear hent
  generalize (lg_sl ([.int p0]) ++ List.replicate (1 - (lg_sl ([.int p0])).length) Slot.unset).toArray = ls at hl ⊢
  have hl : lv_has ls 1 [(0, .int p0)] := hl
  have fin : ∀ (pc : Nat) (v : Int32) (H : Heap) (locs : List Loc) (ls : Array Slot), some v = some out → va_P G.1 vwCl (([] : va_W)) H → va_D A (([] : va_W)) → va_S A s.heap H locs → decode cX4_blurredFigure pc = .ok (.ireturn, 1) → W p l e (headSpec wsX4_blurredFigure rm_X4_blurredFigure).room s m args below meth c H locs 0 0 (MQ below (QRo G (([] : va_W)) out A) args s 0 0 A) (F0 m pc ls [.int v]) := fun pc v H locs ls ho hP hD hS hd => W.iret (v := v) hx hb hr (fun t ht hW => ⟨⟨v, (), rfl, Option.some.inj ho, by first | (rw [ht]; exact hP) | (dsimp only; rw [ht]; exact hP)⟩, hS.F ht⟩) hS.2.2 hd
  generalize MQ below (QRo G (([] : va_W)) out A) args s 0 0 A = Q at fin ⊢
  have go : ∀ (H : Heap) (locs : List Loc), va_P G.1 vwCl (([] : va_W)) H → va_D A (([] : va_W)) → va_S A s.heap H locs → ∀ (ls : Array Slot), lv_has ls 1 [(0, .int p0)] → W p l e (headSpec wsX4_blurredFigure rm_X4_blurredFigure).room s m args below meth c H locs 0 0 Q (F0 m 0 ls []) := by
    intro H locs hP hD hS ls hl
    refine lv_iload_n hx hb dX4_blurredFigure_0 rfl (lv_at hl 0 rfl) ?_
    refine lv_bipush (v := 8) hx hb dX4_blurredFigure_1 (by decide) ?_
    refine lv_icmp_ne (tgt := 10) hx hb dX4_blurredFigure_3 (by decide) (fun c1 => ?_) (fun c1 => ?_)
    · replace hf := ob_neg c1 hf
      refine lv_iload_n hx hb dX4_blurredFigure_10 rfl (lv_at hl 0 rfl) ?_
      exact fin _ _ _ _ _ hf hP hD hS dX4_blurredFigure_11
    · replace hf := ob_pos c1 hf
      refine lv_iconst (v := 3) hx hb dX4_blurredFigure_6 (by decide) ?_
      refine lv_goto (tgt := 11) hx hb dX4_blurredFigure_7 (by decide) ?_
      exact fin _ _ _ _ _ hf hP hD hS dX4_blurredFigure_11
  exact go _ _ hP hD hS _ hl
abbrev rm_X4_blurred : Room := { frames := 2, cells := 0, slots := 0, locals := 44 }
set_option maxHeartbeats 4000000 in
set_option maxRecDepth 100000 in
theorem c_X4_blurred (l : Launch) (G : zG) (sz : Nat) (p0 : Int32) (out : Int32) (hf : f_X4_blurred p0 = some out) : Met l yX4_blurred wsX4_blurred rm_X4_blurred (PcM G (([] : va_W)) [.int p0] sz) (QRo G (([] : va_W)) out (va_A (([] : va_W)) sz)) 0 0 (va_A (([] : va_W)) sz) := by
  rw [f_X4_blurred] at hf
  refine Met.ofW (cc := cX4_blurred) (maxL := 1) (ret := (some .int)) (by decide) rfl ?_
  intro p e s m args below meth c s₁ B hml hv
  obtain ⟨hargs, hsz, hP, hK, hD0, hE⟩ := hv
  have hx := B.exec
  have hb := B.bytes
  have hr := B.returns
  have hts := atoms_spec (ws := wsX4_blurred) B.pre
  have hown : s.vm.findClass RX4 = some m.cls := findClass_of_methodNamed B.named
  have hlocks := B.notSynchronized
  subst hsz
  have hD := hD0.self (sz := s.heap.size)
  generalize hAe : va_A (([] : va_W)) s.heap.size = A at hD hE ⊢
  have hA : ∀ q : Nat, s.heap.size ≤ q → A q := fun q h => by rw [← hAe]; exact Or.inr h
  have hS : va_S A s.heap s.heap [] := va_S.rf
  have hl := lv_entry ([.int p0]) (n := 1) (Nat.le_of_ble_eq_true rfl)
  have hent : entryFrame m args 1 = F0 m 0 ((lg_sl ([.int p0]) ++ List.replicate (1 - (lg_sl ([.int p0])).length) Slot.unset).toArray) [] := by rw [hargs, lg_entry_eq]
  rw [hent]
  clear hent
  generalize (lg_sl ([.int p0]) ++ List.replicate (1 - (lg_sl ([.int p0])).length) Slot.unset).toArray = ls at hl ⊢
  have hl : lv_has ls 1 [(0, .int p0)] := hl
  have fin : ∀ (pc : Nat) (v : Int32) (H : Heap) (locs : List Loc) (ls : Array Slot), some v = some out → va_P G.1 vwCl (([] : va_W)) H → va_D A (([] : va_W)) → va_S A s.heap H locs → decode cX4_blurred pc = .ok (.ireturn, 1) → W p l e (headSpec wsX4_blurred rm_X4_blurred).room s m args below meth c H locs 0 0 (MQ below (QRo G (([] : va_W)) out A) args s 0 0 A) (F0 m pc ls [.int v]) := fun pc v H locs ls ho hP hD hS hd => W.iret (v := v) hx hb hr (fun t ht hW => ⟨⟨v, (), rfl, Option.some.inj ho, by first | (rw [ht]; exact hP) | (dsimp only; rw [ht]; exact hP)⟩, hS.F ht⟩) hS.2.2 hd
  generalize MQ below (QRo G (([] : va_W)) out A) args s 0 0 A = Q at fin ⊢
  have go : ∀ (H : Heap) (locs : List Loc), va_P G.1 vwCl (([] : va_W)) H → va_D A (([] : va_W)) → va_S A s.heap H locs → ∀ (ls : Array Slot), lv_has ls 1 [(0, .int p0)] → W p l e (headSpec wsX4_blurred rm_X4_blurred).room s m args below meth c H locs 0 0 Q (F0 m 0 ls []) := by
    intro H locs hP hD hS ls hl
    refine lv_bipush (v := 10) hx hb dX4_blurred_0 (by decide) ?_
    refine lv_iload_n hx hb dX4_blurred_2 rfl (lv_at hl 0 rfl) ?_
    refine lv_bipush (v := 10) hx hb dX4_blurred_3 (by decide) ?_
    refine lv_idiv hx hb dX4_blurred_5 (by decide) ?_
    obtain ⟨r1, hr1, hf⟩ := ob_bind hf
    have hFc := va_free (wc := ([] : va_W)) hD hS hA [] rfl
    refine zc_ro (va_runS (As := [.int (p0 / 10)]) (rest := [.int 10]) ⟨hx, hb, hml, hown, hts⟩ (c_X4_blurredFigure l G H.size (p0 / 10) _ hr1) (va_cwS 1 hts gX4_blurred_X4_blurredFigure rfl rfl rfl (by decide +kernel) ⟨Nat.le_of_ble_eq_true rfl, Nat.le_of_ble_eq_true rfl⟩) ⟨PcM.blind, PcM.ok hP hD hK hE hS hFc⟩ rfl rfl hl.1 rfl (lv_room (Nat.le_of_ble_eq_true rfl)) dX4_blurred_6 ⟨Nat.le_refl _, Nat.le_refl _⟩) hP hD hS hA [] rfl (fun H locs hP hS => ?_)
    refine lv_imul hx hb dX4_blurred_9 ?_
    refine lv_iload_n hx hb dX4_blurred_10 rfl (lv_at hl 0 rfl) ?_
    refine lv_bipush (v := 10) hx hb dX4_blurred_11 (by decide) ?_
    refine lv_irem hx hb dX4_blurred_13 (by decide) ?_
    obtain ⟨r2, hr2, hf⟩ := ob_bind hf
    have hFc := va_free (wc := ([] : va_W)) hD hS hA [] rfl
    refine zc_ro (va_runS (As := [.int (p0 - p0 / 10 * 10)]) (rest := [.int (10 * r1)]) ⟨hx, hb, hml, hown, hts⟩ (c_X4_blurredFigure l G H.size (p0 - p0 / 10 * 10) _ hr2) (va_cwS 1 hts gX4_blurred_X4_blurredFigure rfl rfl rfl (by decide +kernel) ⟨Nat.le_of_ble_eq_true rfl, Nat.le_of_ble_eq_true rfl⟩) ⟨PcM.blind, PcM.ok hP hD hK hE hS hFc⟩ rfl rfl hl.1 rfl (lv_room (Nat.le_of_ble_eq_true rfl)) dX4_blurred_14 ⟨Nat.le_refl _, Nat.le_refl _⟩) hP hD hS hA [] rfl (fun H locs hP hS => ?_)
    refine lv_iadd hx hb dX4_blurred_17 ?_
    exact fin _ _ _ _ _ hf hP hD hS dX4_blurred_18
  exact go _ _ hP hD hS _ hl
abbrev rm_X4_fittingOnes : Room := { frames := 5, cells := 0, slots := 0, locals := 117 }
set_option maxHeartbeats 4000000 in
set_option maxRecDepth 100000 in
theorem c_X4_fittingOnes (l : Launch) (G : zG) (a0 : AT_X4) (sz : Nat) (S0 : ST_X4) (p1 : Int32) (p2 : Int32) (out : Int32) (hf : f_X4_fittingOnes S0 p1 p2 = some out) : Met l yX4_fittingOnes wsX4_fittingOnes rm_X4_fittingOnes (PcM G (ce_X4 G.2.1 a0 S0) [.ref a0.1, .int p1, .int p2] sz) (QRo G (ce_X4 G.2.1 a0 S0) out (va_A (ce_X4 G.2.1 a0 S0) sz)) 0 0 (va_A (ce_X4 G.2.1 a0 S0) sz) := by
  rw [f_X4_fittingOnes] at hf
  refine Met.ofW (cc := cX4_fittingOnes) (maxL := 8) (ret := (some .int)) (by decide) rfl ?_
  intro p e s m args below meth c s₁ B hml hv
  obtain ⟨hargs, hsz, hP, hK, hD0, hE⟩ := hv
  have hx := B.exec
  have hb := B.bytes
  have hr := B.returns
  have hts := atoms_spec (ws := wsX4_fittingOnes) B.pre
  have hown : s.vm.findClass RX4 = some m.cls := findClass_of_methodNamed B.named
  have hlocks := B.notSynchronized
  subst hsz
  have hD := hD0.self (sz := s.heap.size)
  generalize hAe : va_A (ce_X4 G.2.1 a0 S0) s.heap.size = A at hD hE ⊢
  have hA : ∀ q : Nat, s.heap.size ≤ q → A q := fun q h => by rw [← hAe]; exact Or.inr h
  have hS : va_S A s.heap s.heap [] := va_S.rf
  have hl := lv_entry ([.ref a0.1, .int p1, .int p2]) (n := 8) (Nat.le_of_ble_eq_true rfl)
  have hent : entryFrame m args 8 = F0 m 0 ((lg_sl ([.ref a0.1, .int p1, .int p2]) ++ List.replicate (8 - (lg_sl ([.ref a0.1, .int p1, .int p2])).length) Slot.unset).toArray) [] := by rw [hargs, lg_entry_eq]
  rw [hent]
  clear hent
  generalize (lg_sl ([.ref a0.1, .int p1, .int p2]) ++ List.replicate (8 - (lg_sl ([.ref a0.1, .int p1, .int p2])).length) Slot.unset).toArray = ls at hl ⊢
  have hl : lv_has ls 8 [(0, .ref a0.1), (1, .int p1), (2, .int p2)] := hl
  have lk0 := hts (Cond.fieldLink RX4 12 "EnginesOnList$World" "fleet" "LEnginesOnList$Fleet;") (List.mem_of_getElem? (i := 2) rfl)
  have lk1 := hts (Cond.initialized RX1) (List.mem_of_getElem? (i := 9) rfl)
  have lk2 := hts (Cond.instanceMethod yX1_bit) (List.mem_of_getElem? (i := 29) rfl)
  have lk3 := hts (Cond.selects RX1 yX1_bit yX1_bit) (List.mem_of_getElem? (i := 30) rfl)
  have lk4 := va_Nw.use (A := args) rfl (hE.1 _ nw_4)
  have lk5 := hts (Cond.instanceMethod yX1_number) (List.mem_of_getElem? (i := 32) rfl)
  have lk6 := hts (Cond.selects RX1 yX1_number yX1_number) (List.mem_of_getElem? (i := 33) rfl)
  have lk7 := hts (Cond.fieldLink RX4 21 "EnginesOnList$World" "book" "LEnginesOnList$Book;") (List.mem_of_getElem? (i := 1) rfl)
  have lk8 := hts (Cond.initialized RX0) (List.mem_of_getElem? (i := 4) rfl)
  have lk9 := hts (Cond.instanceMethod yX0_holds) (List.mem_of_getElem? (i := 3) rfl)
  have lk10 := hts (Cond.selects RX0 yX0_holds yX0_holds) (List.mem_of_getElem? (i := 5) rfl)
  have lk11 := va_Nw.use (A := args) rfl (hE.1 _ nw_10)
  have lk12 := va_Nw.use (A := args) rfl (hE.1 _ nw_9)
  have lk13 := va_Nw.use (A := args) rfl (hE.1 _ nw_8)
  have lk14 := hts (Cond.instanceMethod yX1_passing) (List.mem_of_getElem? (i := 8) rfl)
  have lk15 := hts (Cond.selects RX1 yX1_passing yX1_passing) (List.mem_of_getElem? (i := 10) rfl)
  have hinX4 : ∀ w ∈ wsX40, w ∈ wsX4_fittingOnes := by decide +kernel
  have hinX1 : ∀ w ∈ wsX10, w ∈ wsX4_fittingOnes := by decide +kernel
  have hinX0 : ∀ w ∈ wsX00, w ∈ wsX4_fittingOnes := by decide +kernel
  have fin : ∀ (pc : Nat) (v : Int32) (H : Heap) (locs : List Loc) (ls : Array Slot), some v = some out → va_P G.1 vwCl (ce_X4 G.2.1 a0 S0) H → va_D A (ce_X4 G.2.1 a0 S0) → va_S A s.heap H locs → decode cX4_fittingOnes pc = .ok (.ireturn, 1) → W p l e (headSpec wsX4_fittingOnes rm_X4_fittingOnes).room s m args below meth c H locs 0 0 (MQ below (QRo G (ce_X4 G.2.1 a0 S0) out A) args s 0 0 A) (F0 m pc ls [.int v]) := fun pc v H locs ls ho hP hD hS hd => W.iret (v := v) hx hb hr (fun t ht hW => ⟨⟨v, (), rfl, Option.some.inj ho, by first | (rw [ht]; exact hP) | (dsimp only; rw [ht]; exact hP)⟩, hS.F ht⟩) hS.2.2 hd
  generalize MQ below (QRo G (ce_X4 G.2.1 a0 S0) out A) args s 0 0 A = Q at fin ⊢
  have blk56 : ∀ (fu56 : Nat), ∀ (v2 : Int32) (v3 : Int32) (v4 : Int32) (v5 : Int32) (v6 : Int32), f_X4_fittingOnes_b56 S0 fu56 v2 v3 v4 v5 v6 = some out → ∀ (H : Heap) (locs : List Loc), va_P G.1 vwCl (ce_X4 G.2.1 a0 S0) H → va_D A (ce_X4 G.2.1 a0 S0) → va_S A s.heap H locs → ∀ (ls : Array Slot), lv_has ls 8 [(0, .ref a0.1), (2, .int v2), (3, .int v3), (4, .int v4), (5, .int v5), (6, .int v6)] → W p l e (headSpec wsX4_fittingOnes rm_X4_fittingOnes).room s m args below meth c H locs 0 0 Q (F0 m 56 ls []) := by
    intro fu56
    induction fu56 with
    | zero => intro v2 v3 v4 v5 v6 hf; exact ob_none hf
    | succ fu56 ih56 =>
      intro v2 v3 v4 v5 v6 hf H locs hP hD hS ls hl
      rw [f_X4_fittingOnes_b56] at hf
      have blk121 : ∀ (v2 : Int32) (v3 : Int32) (v4 : Int32) (v5 : Int32) (v6 : Int32), f_X4_fittingOnes_b121 S0 (f_X4_fittingOnes_b56 S0 fu56) v2 v3 v4 v5 v6 = some out → ∀ (H : Heap) (locs : List Loc), va_P G.1 vwCl (ce_X4 G.2.1 a0 S0) H → va_D A (ce_X4 G.2.1 a0 S0) → va_S A s.heap H locs → ∀ (ls : Array Slot), lv_has ls 8 [(0, .ref a0.1), (2, .int v2), (3, .int v3), (4, .int v4), (5, .int v5), (6, .int v6)] → W p l e (headSpec wsX4_fittingOnes rm_X4_fittingOnes).room s m args below meth c H locs 0 0 Q (F0 m 121 ls []) := by
        intro v2 v3 v4 v5 v6 hf H locs hP hD hS ls hl
        rw [f_X4_fittingOnes_b121] at hf
        refine lv_iinc (v := v6 + 1) (lv' := [(6, .int (v6 + 1)), (0, .ref a0.1), (2, .int v2), (3, .int v3), (4, .int v4), (5, .int v5)]) hx hb dX4_fittingOnes_121 hl (k := 5) rfl rfl (by decide) rfl (fun ls hl => ?_)
        refine lv_goto (tgt := 56) hx hb dX4_fittingOnes_124 (by decide) ?_
        exact ih56 _ _ _ _ _ hf _ _ hP hD hS _ (lv_sub hl [1, 2, 3, 4, 5, 0] rfl)
      have blk104 : ∀ (v2 : Int32) (v3 : Int32) (v4 : Int32) (v5 : Int32) (v6 : Int32), f_X4_fittingOnes_b104 S0 (f_X4_fittingOnes_b56 S0 fu56) v2 v3 v4 v5 v6 = some out → ∀ (H : Heap) (locs : List Loc), va_P G.1 vwCl (ce_X4 G.2.1 a0 S0) H → va_D A (ce_X4 G.2.1 a0 S0) → va_S A s.heap H locs → ∀ (ls : Array Slot), lv_has ls 8 [(0, .ref a0.1), (2, .int v2), (3, .int v3), (4, .int v4), (5, .int v5), (6, .int v6)] → W p l e (headSpec wsX4_fittingOnes rm_X4_fittingOnes).room s m args below meth c H locs 0 0 Q (F0 m 104 ls []) := by
        intro v2 v3 v4 v5 v6 hf H locs hP hD hS ls hl
        rw [f_X4_fittingOnes_b104] at hf
        refine lv_iload hx hb dX4_fittingOnes_104 (lv_at hl 4 rfl) ?_
        refine lv_iload hx hb dX4_fittingOnes_106 (lv_at hl 3 rfl) ?_
        refine lv_aload_n hx hb dX4_fittingOnes_108 rfl (lv_at hl 0 rfl) ?_
        refine va_get (D := G.1) (ci := 4) (v := .ref a0.2.1.1) (C := RX4) (T := TX4) (N := 3) hx hb hts hinX4 hown hK hP 0 rfl rfl 0 (by decide) lk0 (fun _ h9 => h9) rfl dX4_fittingOnes_109 ?_
        refine lv_iload hx hb dX4_fittingOnes_112 (lv_at hl 5 rfl) ?_
        obtain ⟨r1, hr1, hf⟩ := ob_bind hf
        have hPc : va_P G.1 vwCl (ce_X1 G.2.1 a0.2.1 S0.1) H := hP.sub [1, 2, 3, 4, 5, 6] rfl
        have hDc : va_D A (ce_X1 G.2.1 a0.2.1 S0.1) := hD.sub [1, 2, 3, 4, 5, 6] (by decide) rfl
        have hFc := va_free (wc := ce_X1 G.2.1 a0.2.1 S0.1) hD hS hA [1, 2, 3, 4, 5, 6] rfl
        refine zc_ro (va_runVN (As := [.int v6]) (rest := [.int v4, .int v5]) ⟨hx, hb, hml, hown, hts⟩ (c_X1_bit l G a0.2.1 H.size S0.1 v6 _ hr1) (⟨va_cnB 1 hts gX4_fittingOnes_X1_bit_n62 rfl rfl rfl (hE.1 _ nw_54) lk1 (by decide +kernel) ⟨Nat.le_of_ble_eq_true rfl, Nat.le_of_ble_eq_true rfl⟩, lk2, lk3⟩) ⟨PcM.blind, va_recv hK hPc (ci := 1) (q0 := 0) rfl rfl, PcM.ok hPc hDc hK hE hS hFc⟩ rfl rfl hl.1 rfl (lv_room (Nat.le_of_ble_eq_true rfl)) dX4_fittingOnes_114 ⟨Nat.le_refl _, Nat.le_refl _⟩) hP hD hS hA [1, 2, 3, 4, 5, 6] rfl (fun H locs hP hS => ?_)
        refine lv_iand hx hb dX4_fittingOnes_117 ?_
        refine lv_ior hx hb dX4_fittingOnes_118 ?_
        refine lv_istore (lv' := [(5, .int (v5 ||| (v4 &&& r1))), (0, .ref a0.1), (2, .int v2), (3, .int v3), (4, .int v4), (6, .int v6)]) hx hb dX4_fittingOnes_119 hl (by decide) rfl (fun ls hl => ?_)
        exact blk121 _ _ _ _ _ hf _ _ hP hD hS _ (lv_sub hl [1, 2, 3, 4, 0, 5] rfl)
      refine lv_iload hx hb dX4_fittingOnes_56 (lv_at hl 5 rfl) ?_
      refine lv_aload_n hx hb dX4_fittingOnes_58 rfl (lv_at hl 0 rfl) ?_
      refine va_get (D := G.1) (ci := 4) (v := .ref a0.2.1.1) (C := RX4) (T := TX4) (N := 3) hx hb hts hinX4 hown hK hP 0 rfl rfl 0 (by decide) lk0 (fun _ h9 => h9) rfl dX4_fittingOnes_59 ?_
      refine va_getN (D := G.1) (ci := 1) (v := .int S0.1.2.2.2.2.2.1) (C := RX1) (T := TX1) (N := 9) hx hb hts hinX1 hown hK hP 1 rfl rfl 5 (by decide) lk4 (fun _ h9 => h9) rfl dX4_fittingOnes_62 ?_
      refine lv_icmp_ge (tgt := 127) hx hb dX4_fittingOnes_65 (by decide) (fun c2 => ?_) (fun c2 => ?_)
      · replace hf := ob_pos c2 hf
        refine lv_iload hx hb dX4_fittingOnes_127 (lv_at hl 4 rfl) ?_
        exact fin _ _ _ _ _ hf hP hD hS dX4_fittingOnes_129
      · replace hf := ob_neg c2 hf
        refine lv_aload_n hx hb dX4_fittingOnes_68 rfl (lv_at hl 0 rfl) ?_
        refine va_get (D := G.1) (ci := 4) (v := .ref a0.2.1.1) (C := RX4) (T := TX4) (N := 3) hx hb hts hinX4 hown hK hP 0 rfl rfl 0 (by decide) lk0 (fun _ h9 => h9) rfl dX4_fittingOnes_69 ?_
        refine lv_iload hx hb dX4_fittingOnes_72 (lv_at hl 5 rfl) ?_
        obtain ⟨r3, hr3, hf⟩ := ob_bind hf
        have hPc : va_P G.1 vwCl (ce_X1 G.2.1 a0.2.1 S0.1) H := hP.sub [1, 2, 3, 4, 5, 6] rfl
        have hDc : va_D A (ce_X1 G.2.1 a0.2.1 S0.1) := hD.sub [1, 2, 3, 4, 5, 6] (by decide) rfl
        have hFc := va_free (wc := ce_X1 G.2.1 a0.2.1 S0.1) hD hS hA [1, 2, 3, 4, 5, 6] rfl
        refine zc_ro (va_runVN (As := [.int v6]) (rest := []) ⟨hx, hb, hml, hown, hts⟩ (c_X1_number l G a0.2.1 H.size S0.1 v6 _ hr3) (⟨va_cnB 1 hts gX4_fittingOnes_X1_number_n79 rfl rfl rfl (hE.1 _ nw_59) lk1 (by decide +kernel) ⟨Nat.le_of_ble_eq_true rfl, Nat.le_of_ble_eq_true rfl⟩, lk5, lk6⟩) ⟨PcM.blind, va_recv hK hPc (ci := 1) (q0 := 0) rfl rfl, PcM.ok hPc hDc hK hE hS hFc⟩ rfl rfl hl.1 rfl (lv_room (Nat.le_of_ble_eq_true rfl)) dX4_fittingOnes_74 ⟨Nat.le_refl _, Nat.le_refl _⟩) hP hD hS hA [1, 2, 3, 4, 5, 6] rfl (fun H locs hP hS => ?_)
        refine lv_istore (lv' := [(7, .int r3), (0, .ref a0.1), (2, .int v2), (3, .int v3), (4, .int v4), (5, .int v5), (6, .int v6)]) hx hb dX4_fittingOnes_77 hl (by decide) rfl (fun ls hl => ?_)
        refine lv_iload_n hx hb dX4_fittingOnes_79 rfl (lv_at hl 2 rfl) ?_
        refine lv_if_eq (tgt := 92) hx hb dX4_fittingOnes_80 (by decide) (fun c4 => ?_) (fun c4 => ?_)
        · replace hf := ob_pos c4 hf
          refine lv_iload hx hb dX4_fittingOnes_92 (lv_at hl 0 rfl) ?_
          obtain ⟨r5, hr5, hf⟩ := ob_bind hf
          have hPc : va_P G.1 vwCl (([] : va_W)) H := hP.sub [] rfl
          have hDc : va_D A (([] : va_W)) := hD.sub [] (by decide) rfl
          have hFc := va_free (wc := ([] : va_W)) hD hS hA [] rfl
          refine zc_ro (va_runS (As := [.int r3]) (rest := []) ⟨hx, hb, hml, hown, hts⟩ (c_X4_blurred l G H.size r3 _ hr5) (va_cwS 1 hts gX4_fittingOnes_X4_blurred rfl rfl rfl (by decide +kernel) ⟨Nat.le_of_ble_eq_true rfl, Nat.le_of_ble_eq_true rfl⟩) ⟨PcM.blind, PcM.ok hPc hDc hK hE hS hFc⟩ rfl rfl hl.1 rfl (lv_room (Nat.le_of_ble_eq_true rfl)) dX4_fittingOnes_94 ⟨Nat.le_refl _, Nat.le_refl _⟩) hP hD hS hA [] rfl (fun H locs hP hS => ?_)
          refine lv_iload_n hx hb dX4_fittingOnes_97 rfl (lv_at hl 3 rfl) ?_
          obtain ⟨r6, hr6, hf⟩ := ob_bind hf
          have hPc : va_P G.1 vwCl (([] : va_W)) H := hP.sub [] rfl
          have hDc : va_D A (([] : va_W)) := hD.sub [] (by decide) rfl
          have hFc := va_free (wc := ([] : va_W)) hD hS hA [] rfl
          refine zc_ro (va_runS (As := [.int v3]) (rest := [.int r5]) ⟨hx, hb, hml, hown, hts⟩ (c_X4_blurred l G H.size v3 _ hr6) (va_cwS 1 hts gX4_fittingOnes_X4_blurred rfl rfl rfl (by decide +kernel) ⟨Nat.le_of_ble_eq_true rfl, Nat.le_of_ble_eq_true rfl⟩) ⟨PcM.blind, PcM.ok hPc hDc hK hE hS hFc⟩ rfl rfl hl.1 rfl (lv_room (Nat.le_of_ble_eq_true rfl)) dX4_fittingOnes_98 ⟨Nat.le_refl _, Nat.le_refl _⟩) hP hD hS hA [] rfl (fun H locs hP hS => ?_)
          refine lv_icmp_ne (tgt := 121) hx hb dX4_fittingOnes_101 (by decide) (fun c7 => ?_) (fun c7 => ?_)
          · replace hf := ob_neg c7 hf
            exact blk121 _ _ _ _ _ hf _ _ hP hD hS _ (lv_sub hl [1, 2, 3, 4, 5, 6] rfl)
          · replace hf := ob_pos c7 hf
            exact blk104 _ _ _ _ _ hf _ _ hP hD hS _ (lv_sub hl [1, 2, 3, 4, 5, 6] rfl)
        · replace hf := ob_neg c4 hf
          refine lv_iload hx hb dX4_fittingOnes_83 (lv_at hl 0 rfl) ?_
          refine lv_iload_n hx hb dX4_fittingOnes_85 rfl (lv_at hl 3 rfl) ?_
          refine lv_icmp_ne (tgt := 121) hx hb dX4_fittingOnes_86 (by decide) (fun c8 => ?_) (fun c8 => ?_)
          · replace hf := ob_neg c8 hf
            exact blk121 _ _ _ _ _ hf _ _ hP hD hS _ (lv_sub hl [1, 2, 3, 4, 5, 6] rfl)
          · replace hf := ob_pos c8 hf
            refine lv_goto (tgt := 104) hx hb dX4_fittingOnes_89 (by decide) ?_
            exact blk104 _ _ _ _ _ hf _ _ hP hD hS _ (lv_sub hl [1, 2, 3, 4, 5, 6] rfl)
  have go : ∀ (H : Heap) (locs : List Loc), va_P G.1 vwCl (ce_X4 G.2.1 a0 S0) H → va_D A (ce_X4 G.2.1 a0 S0) → va_S A s.heap H locs → ∀ (ls : Array Slot), lv_has ls 8 [(0, .ref a0.1), (1, .int p1), (2, .int p2)] → W p l e (headSpec wsX4_fittingOnes rm_X4_fittingOnes).room s m args below meth c H locs 0 0 Q (F0 m 0 ls []) := by
    intro H locs hP hD hS ls hl
    refine lv_aload_n hx hb dX4_fittingOnes_0 rfl (lv_at hl 0 rfl) ?_
    refine va_get (D := G.1) (ci := 4) (v := .ref a0.2.2.1) (C := RX4) (T := TX4) (N := 3) hx hb hts hinX4 hown hK hP 0 rfl rfl 1 (by decide) lk7 (fun _ h9 => h9) rfl dX4_fittingOnes_1 ?_
    refine lv_iload_n hx hb dX4_fittingOnes_4 rfl (lv_at hl 1 rfl) ?_
    obtain ⟨r9, hr9, hf⟩ := ob_bind hf
    have hPc : va_P G.1 vwCl (ce_X0 G.2.1 a0.2.2 S0.2.1) H := hP.sub [7, 8, 9, 10, 11] rfl
    have hDc : va_D A (ce_X0 G.2.1 a0.2.2 S0.2.1) := hD.sub [7, 8, 9, 10, 11] (by decide) rfl
    have hFc := va_free (wc := ce_X0 G.2.1 a0.2.2 S0.2.1) hD hS hA [7, 8, 9, 10, 11] rfl
    refine zc_ro (va_runVN (As := [.int p1]) (rest := []) ⟨hx, hb, hml, hown, hts⟩ (c_X0_holds l G a0.2.2 H.size S0.2.1 p1 _ hr9) (⟨va_cnB 1 hts gX4_fittingOnes_X0_holds_n65 rfl rfl rfl (hE.1 _ nw_58) lk8 (by decide +kernel) ⟨Nat.le_of_ble_eq_true rfl, Nat.le_of_ble_eq_true rfl⟩, lk9, lk10⟩) ⟨PcM.blind, va_recv hK hPc (ci := 0) (q0 := 0) rfl rfl, PcM.ok hPc hDc hK hE hS hFc⟩ rfl rfl hl.1 rfl (lv_room (Nat.le_of_ble_eq_true rfl)) dX4_fittingOnes_5 ⟨Nat.le_refl _, Nat.le_refl _⟩) hP hD hS hA [7, 8, 9, 10, 11] rfl (fun H locs hP hS => ?_)
    refine lv_if_ne (tgt := 13) hx hb dX4_fittingOnes_8 (by decide) (fun c10 => ?_) (fun c10 => ?_)
    · replace hf := ob_neg c10 hf
      refine lv_aload_n hx hb dX4_fittingOnes_13 rfl (lv_at hl 0 rfl) ?_
      refine va_get (D := G.1) (ci := 4) (v := .ref a0.2.2.1) (C := RX4) (T := TX4) (N := 3) hx hb hts hinX4 hown hK hP 0 rfl rfl 1 (by decide) lk7 (fun _ h9 => h9) rfl dX4_fittingOnes_14 ?_
      refine va_getN (D := G.1) (ci := 0) (v := .ref a0.2.2.2.2.2.1) (C := RX0) (T := TX0) (N := 5) hx hb hts hinX0 hown hK hP 7 rfl rfl 2 (by decide) lk11 (fun _ h9 => h9) rfl dX4_fittingOnes_17 ?_
      refine lv_iload_n hx hb dX4_fittingOnes_20 rfl (lv_at hl 1 rfl) ?_
      obtain ⟨hg11, hf⟩ := ob_guard hf
      refine va_iald hx hb hK hP 10 0 rfl rfl hg11 dX4_fittingOnes_21 ?_
      refine lv_istore_n (lv' := [(3, .int (S0.2.1.2.2.1 p1.toNatClampNeg)), (0, .ref a0.1), (1, .int p1), (2, .int p2)]) hx hb dX4_fittingOnes_22 rfl hl (by decide) rfl (fun ls hl => ?_)
      refine lv_aload_n hx hb dX4_fittingOnes_23 rfl (lv_at hl 1 rfl) ?_
      refine va_get (D := G.1) (ci := 4) (v := .ref a0.2.1.1) (C := RX4) (T := TX4) (N := 3) hx hb hts hinX4 hown hK hP 0 rfl rfl 0 (by decide) lk0 (fun _ h9 => h9) rfl dX4_fittingOnes_24 ?_
      refine lv_aload_n hx hb dX4_fittingOnes_27 rfl (lv_at hl 1 rfl) ?_
      refine va_get (D := G.1) (ci := 4) (v := .ref a0.2.2.1) (C := RX4) (T := TX4) (N := 3) hx hb hts hinX4 hown hK hP 0 rfl rfl 1 (by decide) lk7 (fun _ h9 => h9) rfl dX4_fittingOnes_28 ?_
      refine va_getN (D := G.1) (ci := 0) (v := .ref a0.2.2.2.2.1) (C := RX0) (T := TX0) (N := 5) hx hb hts hinX0 hown hK hP 7 rfl rfl 1 (by decide) lk12 (fun _ h9 => h9) rfl dX4_fittingOnes_31 ?_
      refine lv_iload_n hx hb dX4_fittingOnes_34 rfl (lv_at hl 2 rfl) ?_
      obtain ⟨hg12, hf⟩ := ob_guard hf
      refine va_iald hx hb hK hP 9 0 rfl rfl hg12 dX4_fittingOnes_35 ?_
      refine lv_aload_n hx hb dX4_fittingOnes_36 rfl (lv_at hl 1 rfl) ?_
      refine va_get (D := G.1) (ci := 4) (v := .ref a0.2.2.1) (C := RX4) (T := TX4) (N := 3) hx hb hts hinX4 hown hK hP 0 rfl rfl 1 (by decide) lk7 (fun _ h9 => h9) rfl dX4_fittingOnes_37 ?_
      refine va_getN (D := G.1) (ci := 0) (v := .ref a0.2.2.2.1) (C := RX0) (T := TX0) (N := 5) hx hb hts hinX0 hown hK hP 7 rfl rfl 0 (by decide) lk13 (fun _ h9 => h9) rfl dX4_fittingOnes_40 ?_
      refine lv_iload_n hx hb dX4_fittingOnes_43 rfl (lv_at hl 2 rfl) ?_
      obtain ⟨hg13, hf⟩ := ob_guard hf
      refine va_iald hx hb hK hP 8 0 rfl rfl hg13 dX4_fittingOnes_44 ?_
      obtain ⟨r14, hr14, hf⟩ := ob_bind hf
      have hPc : va_P G.1 vwCl (ce_X1 G.2.1 a0.2.1 S0.1) H := hP.sub [1, 2, 3, 4, 5, 6] rfl
      have hDc : va_D A (ce_X1 G.2.1 a0.2.1 S0.1) := hD.sub [1, 2, 3, 4, 5, 6] (by decide) rfl
      have hFc := va_free (wc := ce_X1 G.2.1 a0.2.1 S0.1) hD hS hA [1, 2, 3, 4, 5, 6] rfl
      refine zc_ro (va_runVN (As := [.int (S0.2.1.2.1 p1.toNatClampNeg), .int (S0.2.1.1 p1.toNatClampNeg)]) (rest := []) ⟨hx, hb, hml, hown, hts⟩ (c_X1_passing l G a0.2.1 H.size S0.1 (S0.2.1.2.1 p1.toNatClampNeg) (S0.2.1.1 p1.toNatClampNeg) _ hr14) (⟨va_cnB 2 hts gX4_fittingOnes_X1_passing_n36 rfl rfl rfl (hE.1 _ nw_45) lk1 (by decide +kernel) ⟨Nat.le_of_ble_eq_true rfl, Nat.le_of_ble_eq_true rfl⟩, lk14, lk15⟩) ⟨PcM.blind, va_recv hK hPc (ci := 1) (q0 := 0) rfl rfl, PcM.ok hPc hDc hK hE hS hFc⟩ rfl rfl hl.1 rfl (lv_room (Nat.le_of_ble_eq_true rfl)) dX4_fittingOnes_45 ⟨Nat.le_refl _, Nat.le_refl _⟩) hP hD hS hA [1, 2, 3, 4, 5, 6] rfl (fun H locs hP hS => ?_)
      refine lv_istore (lv' := [(4, .int r14), (3, .int (S0.2.1.2.2.1 p1.toNatClampNeg)), (0, .ref a0.1), (1, .int p1), (2, .int p2)]) hx hb dX4_fittingOnes_48 hl (by decide) rfl (fun ls hl => ?_)
      refine lv_iconst (v := 0) hx hb dX4_fittingOnes_50 (by decide) ?_
      refine lv_istore (lv' := [(5, .int 0), (4, .int r14), (3, .int (S0.2.1.2.2.1 p1.toNatClampNeg)), (0, .ref a0.1), (1, .int p1), (2, .int p2)]) hx hb dX4_fittingOnes_51 hl (by decide) rfl (fun ls hl => ?_)
      refine lv_iconst (v := 0) hx hb dX4_fittingOnes_53 (by decide) ?_
      refine lv_istore (lv' := [(6, .int 0), (5, .int 0), (4, .int r14), (3, .int (S0.2.1.2.2.1 p1.toNatClampNeg)), (0, .ref a0.1), (1, .int p1), (2, .int p2)]) hx hb dX4_fittingOnes_54 hl (by decide) rfl (fun ls hl => ?_)
      exact blk56 4096 _ _ _ _ _ hf _ _ hP hD hS _ (lv_sub hl [4, 6, 3, 2, 1, 0] rfl)
    · replace hf := ob_pos c10 hf
      refine lv_iconst (v := 0) hx hb dX4_fittingOnes_11 (by decide) ?_
      exact fin _ _ _ _ _ hf hP hD hS dX4_fittingOnes_12
  exact go _ _ hP hD hS _ hl
abbrev rm_X4_madeUpOnes : Room := { frames := 6, cells := 0, slots := 0, locals := 144 }
set_option maxHeartbeats 4000000 in
set_option maxRecDepth 100000 in
theorem c_X4_madeUpOnes (l : Launch) (G : zG) (a0 : AT_X4) (sz : Nat) (S0 : ST_X4) (out : Int32) (hf : f_X4_madeUpOnes S0 = some out) : Met l yX4_madeUpOnes wsX4_madeUpOnes rm_X4_madeUpOnes (PcM G (ce_X4 G.2.1 a0 S0) [.ref a0.1] sz) (QRo G (ce_X4 G.2.1 a0 S0) out (va_A (ce_X4 G.2.1 a0 S0) sz)) 0 0 (va_A (ce_X4 G.2.1 a0 S0) sz) := by
  rw [f_X4_madeUpOnes] at hf
  refine Met.ofW (cc := cX4_madeUpOnes) (maxL := 3) (ret := (some .int)) (by decide) rfl ?_
  intro p e s m args below meth c s₁ B hml hv
  obtain ⟨hargs, hsz, hP, hK, hD0, hE⟩ := hv
  have hx := B.exec
  have hb := B.bytes
  have hr := B.returns
  have hts := atoms_spec (ws := wsX4_madeUpOnes) B.pre
  have hown : s.vm.findClass RX4 = some m.cls := findClass_of_methodNamed B.named
  have hlocks := B.notSynchronized
  subst hsz
  have hD := hD0.self (sz := s.heap.size)
  generalize hAe : va_A (ce_X4 G.2.1 a0 S0) s.heap.size = A at hD hE ⊢
  have hA : ∀ q : Nat, s.heap.size ≤ q → A q := fun q h => by rw [← hAe]; exact Or.inr h
  have hS : va_S A s.heap s.heap [] := va_S.rf
  have hl := lv_entry ([.ref a0.1]) (n := 3) (Nat.le_of_ble_eq_true rfl)
  have hent : entryFrame m args 3 = F0 m 0 ((lg_sl ([.ref a0.1]) ++ List.replicate (3 - (lg_sl ([.ref a0.1])).length) Slot.unset).toArray) [] := by rw [hargs, lg_entry_eq]
  rw [hent]
  clear hent
  generalize (lg_sl ([.ref a0.1]) ++ List.replicate (3 - (lg_sl ([.ref a0.1])).length) Slot.unset).toArray = ls at hl ⊢
  have hl : lv_has ls 3 [(0, .ref a0.1)] := hl
  have lk0 := hts (Cond.fieldLink RX4 21 "EnginesOnList$World" "book" "LEnginesOnList$Book;") (List.mem_of_getElem? (i := 1) rfl)
  have lk1 := va_Nw.use (A := args) rfl (hE.1 _ nw_11)
  have hinX4 : ∀ w ∈ wsX40, w ∈ wsX4_madeUpOnes := by decide +kernel
  have hinX0 : ∀ w ∈ wsX00, w ∈ wsX4_madeUpOnes := by decide +kernel
  have fin : ∀ (pc : Nat) (v : Int32) (H : Heap) (locs : List Loc) (ls : Array Slot), some v = some out → va_P G.1 vwCl (ce_X4 G.2.1 a0 S0) H → va_D A (ce_X4 G.2.1 a0 S0) → va_S A s.heap H locs → decode cX4_madeUpOnes pc = .ok (.ireturn, 1) → W p l e (headSpec wsX4_madeUpOnes rm_X4_madeUpOnes).room s m args below meth c H locs 0 0 (MQ below (QRo G (ce_X4 G.2.1 a0 S0) out A) args s 0 0 A) (F0 m pc ls [.int v]) := fun pc v H locs ls ho hP hD hS hd => W.iret (v := v) hx hb hr (fun t ht hW => ⟨⟨v, (), rfl, Option.some.inj ho, by first | (rw [ht]; exact hP) | (dsimp only; rw [ht]; exact hP)⟩, hS.F ht⟩) hS.2.2 hd
  generalize MQ below (QRo G (ce_X4 G.2.1 a0 S0) out A) args s 0 0 A = Q at fin ⊢
  have blk4 : ∀ (fu4 : Nat), ∀ (v1 : Int32) (v2 : Int32), f_X4_madeUpOnes_b4 S0 fu4 v1 v2 = some out → ∀ (H : Heap) (locs : List Loc), va_P G.1 vwCl (ce_X4 G.2.1 a0 S0) H → va_D A (ce_X4 G.2.1 a0 S0) → va_S A s.heap H locs → ∀ (ls : Array Slot), lv_has ls 3 [(0, .ref a0.1), (1, .int v1), (2, .int v2)] → W p l e (headSpec wsX4_madeUpOnes rm_X4_madeUpOnes).room s m args below meth c H locs 0 0 Q (F0 m 4 ls []) := by
    intro fu4
    induction fu4 with
    | zero => intro v1 v2 hf; exact ob_none hf
    | succ fu4 ih4 =>
      intro v1 v2 hf H locs hP hD hS ls hl
      rw [f_X4_madeUpOnes_b4] at hf
      have blk30 : ∀ (v1 : Int32) (v2 : Int32), f_X4_madeUpOnes_b30 S0 (f_X4_madeUpOnes_b4 S0 fu4) v1 v2 = some out → ∀ (H : Heap) (locs : List Loc), va_P G.1 vwCl (ce_X4 G.2.1 a0 S0) H → va_D A (ce_X4 G.2.1 a0 S0) → va_S A s.heap H locs → ∀ (ls : Array Slot), lv_has ls 3 [(0, .ref a0.1), (1, .int v1), (2, .int v2)] → W p l e (headSpec wsX4_madeUpOnes rm_X4_madeUpOnes).room s m args below meth c H locs 0 0 Q (F0 m 30 ls []) := by
        intro v1 v2 hf H locs hP hD hS ls hl
        rw [f_X4_madeUpOnes_b30] at hf
        refine lv_iinc (v := v2 + 1) (lv' := [(2, .int (v2 + 1)), (0, .ref a0.1), (1, .int v1)]) hx hb dX4_madeUpOnes_30 hl (k := 2) rfl rfl (by decide) rfl (fun ls hl => ?_)
        refine lv_goto (tgt := 4) hx hb dX4_madeUpOnes_33 (by decide) ?_
        exact ih4 _ _ hf _ _ hP hD hS _ (lv_sub hl [1, 2, 0] rfl)
      refine lv_iload_n hx hb dX4_madeUpOnes_4 rfl (lv_at hl 2 rfl) ?_
      refine lv_aload_n hx hb dX4_madeUpOnes_5 rfl (lv_at hl 0 rfl) ?_
      refine va_get (D := G.1) (ci := 4) (v := .ref a0.2.2.1) (C := RX4) (T := TX4) (N := 3) hx hb hts hinX4 hown hK hP 0 rfl rfl 1 (by decide) lk0 (fun _ h9 => h9) rfl dX4_madeUpOnes_6 ?_
      refine va_getN (D := G.1) (ci := 0) (v := .int S0.2.1.2.2.2.2) (C := RX0) (T := TX0) (N := 5) hx hb hts hinX0 hown hK hP 7 rfl rfl 4 (by decide) lk1 (fun _ h9 => h9) rfl dX4_madeUpOnes_9 ?_
      refine lv_icmp_ge (tgt := 36) hx hb dX4_madeUpOnes_12 (by decide) (fun c1 => ?_) (fun c1 => ?_)
      · replace hf := ob_pos c1 hf
        refine lv_iload_n hx hb dX4_madeUpOnes_36 rfl (lv_at hl 1 rfl) ?_
        exact fin _ _ _ _ _ hf hP hD hS dX4_madeUpOnes_37
      · replace hf := ob_neg c1 hf
        refine lv_aload_n hx hb dX4_madeUpOnes_15 rfl (lv_at hl 0 rfl) ?_
        refine lv_iload_n hx hb dX4_madeUpOnes_16 rfl (lv_at hl 2 rfl) ?_
        refine lv_iconst (v := 0) hx hb dX4_madeUpOnes_17 (by decide) ?_
        obtain ⟨r2, hr2, hf⟩ := ob_bind hf
        have hFc := va_free (wc := ce_X4 G.2.1 a0 S0) hD hS hA [0, 1, 2, 3, 4, 5, 6, 7, 8, 9, 10, 11] rfl
        refine zc_ro (va_runV (As := [.int v2, .int 0]) (rest := []) ⟨hx, hb, hml, hown, hts⟩ (c_X4_fittingOnes l G a0 H.size S0 v2 0 _ hr2) (cwV 2 hts gX4_madeUpOnes_X4_fittingOnes rfl rfl rfl (by decide +kernel) ⟨Nat.le_of_ble_eq_true rfl, Nat.le_of_ble_eq_true rfl⟩) ⟨PcM.blind, va_recv hK hP (ci := 4) (q0 := 0) rfl rfl, PcM.ok hP hD hK hE hS hFc⟩ rfl rfl hl.1 rfl (lv_room (Nat.le_of_ble_eq_true rfl)) dX4_madeUpOnes_18 ⟨Nat.le_refl _, Nat.le_refl _⟩) hP hD hS hA [0, 1, 2, 3, 4, 5, 6, 7, 8, 9, 10, 11] rfl (fun H locs hP hS => ?_)
        refine lv_if_ne (tgt := 30) hx hb dX4_madeUpOnes_21 (by decide) (fun c3 => ?_) (fun c3 => ?_)
        · replace hf := ob_neg c3 hf
          exact blk30 _ _ hf _ _ hP hD hS _ (lv_sub hl [0, 1, 2] rfl)
        · replace hf := ob_pos c3 hf
          refine lv_iload_n hx hb dX4_madeUpOnes_24 rfl (lv_at hl 1 rfl) ?_
          refine lv_iconst (v := 1) hx hb dX4_madeUpOnes_25 (by decide) ?_
          refine lv_iload_n hx hb dX4_madeUpOnes_26 rfl (lv_at hl 2 rfl) ?_
          refine lv_ishl hx hb dX4_madeUpOnes_27 ?_
          refine lv_ior hx hb dX4_madeUpOnes_28 ?_
          refine lv_istore_n (lv' := [(1, .int (v1 ||| (1 <<< (v2 &&& 31)))), (0, .ref a0.1), (2, .int v2)]) hx hb dX4_madeUpOnes_29 rfl hl (by decide) rfl (fun ls hl => ?_)
          exact blk30 _ _ hf _ _ hP hD hS _ (lv_sub hl [1, 0, 2] rfl)
  have go : ∀ (H : Heap) (locs : List Loc), va_P G.1 vwCl (ce_X4 G.2.1 a0 S0) H → va_D A (ce_X4 G.2.1 a0 S0) → va_S A s.heap H locs → ∀ (ls : Array Slot), lv_has ls 3 [(0, .ref a0.1)] → W p l e (headSpec wsX4_madeUpOnes rm_X4_madeUpOnes).room s m args below meth c H locs 0 0 Q (F0 m 0 ls []) := by
    intro H locs hP hD hS ls hl
    refine lv_iconst (v := 0) hx hb dX4_madeUpOnes_0 (by decide) ?_
    refine lv_istore_n (lv' := [(1, .int 0), (0, .ref a0.1)]) hx hb dX4_madeUpOnes_1 rfl hl (by decide) rfl (fun ls hl => ?_)
    refine lv_iconst (v := 0) hx hb dX4_madeUpOnes_2 (by decide) ?_
    refine lv_istore_n (lv' := [(2, .int 0), (1, .int 0), (0, .ref a0.1)]) hx hb dX4_madeUpOnes_3 rfl hl (by decide) rfl (fun ls hl => ?_)
    exact blk4 4096 _ _ hf _ _ hP hD hS _ (lv_sub hl [2, 1, 0] rfl)
  exact go _ _ hP hD hS _ hl
