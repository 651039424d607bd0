abbrev rm_X6_underline : Room := { frames := 3, cells := 0, slots := 0, locals := 66 }
set_option maxHeartbeats 4000000 in
set_option maxRecDepth 100000 in
theorem c_X6_underline (l : Launch) (G : zG) (a0 : AT_X6) (sz : Nat) (S0 : ST_X6) (p1 : Int32) (p2 : Int32) (out : Int32 × ST_X6) (hf : f_X6_underline S0 p1 p2 = some out) : Met l yX6_underline wsX6_underline rm_X6_underline (PcM G (ce_X6 G.2.1 a0 S0) [.ref a0.1, .int p1, .int p2] sz) (QWr G (fun u => ce_X6 G.2.1 a0 u) out (va_A (ce_X6 G.2.1 a0 S0) sz)) 0 0 (va_A (ce_X6 G.2.1 a0 S0) sz) := by
  rw [f_X6_underline] at hf
  refine Met.ofW (cc := cX6_underline) (maxL := 5) (ret := (some .int)) (by decide) rfl ?_
  intro p e s m args below meth c s₁ B hml hv
  obtain ⟨hargs, hsz, hP, hK, hD0, hE⟩ := hv
  have hx := B.exec
  have hb := B.bytes
  have hr := B.returns
  have hts := atoms_spec (ws := wsX6_underline) B.pre
  have hown : s.vm.findClass RX6 = some m.cls := findClass_of_methodNamed B.named
  have hlocks := B.notSynchronized
  subst hsz
  have hD := hD0.self (sz := s.heap.size)
  generalize hAe : va_A (ce_X6 G.2.1 a0 S0) s.heap.size = A at hD hE ⊢
  have hA : ∀ q : Nat, s.heap.size ≤ q → A q := fun q h => by rw [← hAe]; exact Or.inr h
  have hS : va_S A s.heap s.heap [] := va_S.rf
  have hl := lv_entry ([.ref a0.1, .int p1, .int p2]) (n := 5) (Nat.le_of_ble_eq_true rfl)
  have hent : entryFrame m args 5 = F0 m 0 ((lg_sl ([.ref a0.1, .int p1, .int p2]) ++ List.replicate (5 - (lg_sl ([.ref a0.1, .int p1, .int p2])).length) Slot.unset).toArray) [] := by rw [hargs, lg_entry_eq]
  rw [hent]
  clear hent
  generalize (lg_sl ([.ref a0.1, .int p1, .int p2]) ++ List.replicate (5 - (lg_sl ([.ref a0.1, .int p1, .int p2])).length) Slot.unset).toArray = ls at hl ⊢
  have hl : lv_has ls 5 [(0, .ref a0.1), (1, .int p1), (2, .int p2)] := hl
  have lk0 := hts (Cond.fieldLink RX6 13 "EnginesOnListModel" "s" "[I") (List.mem_of_getElem? (i := 1) rfl)
  have hinX6 : ∀ w ∈ wsX60, w ∈ wsX6_underline := by decide +kernel
  have fin : ∀ (pc : Nat) (v : Int32) (u : ST_X6) (H : Heap) (locs : List Loc) (ls : Array Slot), some (v, u) = some out → va_P G.1 vwCl (ce_X6 G.2.1 a0 u) H → va_D A (ce_X6 G.2.1 a0 u) → va_S A s.heap H locs → decode cX6_underline pc = .ok (.ireturn, 1) → W p l e (headSpec wsX6_underline rm_X6_underline).room s m args below meth c H locs 0 0 (MQ below (QWr G (fun u => ce_X6 G.2.1 a0 u) out A) args s 0 0 A) (F0 m pc ls [.int v]) := fun pc v u H locs ls ho hP hD hS hd => W.iret (v := v) hx hb hr (fun t ht hW => ⟨⟨v, u, rfl, ob_pair ho, by first | (rw [ht]; exact hP) | (dsimp only; rw [ht]; exact hP), hD⟩, hS.F ht⟩) hS.2.2 hd
  generalize MQ below (QWr G (fun u => ce_X6 G.2.1 a0 u) out A) args s 0 0 A = Q at fin ⊢
  have blk84 : ∀ (S0 : ST_X6) (v4 : Int32) (w1 : Int32) (w2 : Int32), f_X6_underline_b84 S0 v4 w1 w2 = some out → ∀ (H : Heap) (locs : List Loc), va_P G.1 vwCl (ce_X6 G.2.1 a0 S0) H → va_D A (ce_X6 G.2.1 a0 S0) → va_S A s.heap H locs → ∀ (ls : Array Slot), lv_has ls 5 [(4, .int v4)] → W p l e (headSpec wsX6_underline rm_X6_underline).room s m args below meth c H locs 0 0 Q (F0 m 84 ls [.int w2, .int w1, .ref a0.2.2.1]) := by
    intro S0 v4 w1 w2 hf H locs hP hD hS ls hl
    rw [f_X6_underline_b84] at hf
    obtain ⟨hg1, hf⟩ := ob_guard hf
    refine va_iast hx hb hK hP hD hS 2 0 rfl rfl hg1 dX6_underline_84 (fun H locs hP hD hS => ?_)
    have hP : va_P G.1 vwCl (ce_X6 G.2.1 a0 (S0.1, (upd S0.2.1 (w1.toNatClampNeg) w2), S0.2.2.1, S0.2.2.2.1, S0.2.2.2.2.1, S0.2.2.2.2.2.1, S0.2.2.2.2.2.2.1, S0.2.2.2.2.2.2.2.1, S0.2.2.2.2.2.2.2.2.1, S0.2.2.2.2.2.2.2.2.2.1, S0.2.2.2.2.2.2.2.2.2.2.1, S0.2.2.2.2.2.2.2.2.2.2.2.1, S0.2.2.2.2.2.2.2.2.2.2.2.2.1, S0.2.2.2.2.2.2.2.2.2.2.2.2.2)) H := hP
    have hD : va_D A (ce_X6 G.2.1 a0 (S0.1, (upd S0.2.1 (w1.toNatClampNeg) w2), S0.2.2.1, S0.2.2.2.1, S0.2.2.2.2.1, S0.2.2.2.2.2.1, S0.2.2.2.2.2.2.1, S0.2.2.2.2.2.2.2.1, S0.2.2.2.2.2.2.2.2.1, S0.2.2.2.2.2.2.2.2.2.1, S0.2.2.2.2.2.2.2.2.2.2.1, S0.2.2.2.2.2.2.2.2.2.2.2.1, S0.2.2.2.2.2.2.2.2.2.2.2.2.1, S0.2.2.2.2.2.2.2.2.2.2.2.2.2)) := hD
    refine lv_iload hx hb dX6_underline_85 (lv_at hl 0 rfl) ?_
    exact fin _ _ _ _ _ _ hf hP hD hS dX6_underline_87
  have blk26 : ∀ (S0 : ST_X6) (v1 : Int32) (v2 : Int32) (w0 : Int32), f_X6_underline_b26 S0 v1 v2 w0 = some out → ∀ (H : Heap) (locs : List Loc), va_P G.1 vwCl (ce_X6 G.2.1 a0 S0) H → va_D A (ce_X6 G.2.1 a0 S0) → va_S A s.heap H locs → ∀ (ls : Array Slot), lv_has ls 5 [(0, .ref a0.1), (1, .int v1), (2, .int v2)] → W p l e (headSpec wsX6_underline rm_X6_underline).room s m args below meth c H locs 0 0 Q (F0 m 26 ls [.int w0]) := by
    intro S0 v1 v2 w0 hf H locs hP hD hS ls hl
    rw [f_X6_underline_b26] at hf
    refine lv_istore_n (lv' := [(3, .int w0), (0, .ref a0.1), (1, .int v1), (2, .int v2)]) hx hb dX6_underline_26 rfl hl (by decide) rfl (fun ls hl => ?_)
    refine lv_iload_n hx hb dX6_underline_27 rfl (lv_at hl 0 rfl) ?_
    refine lv_if_eq (tgt := 37) hx hb dX6_underline_28 (by decide) (fun c2 => ?_) (fun c2 => ?_)
    · replace hf := ob_pos c2 hf
      refine lv_aload_n hx hb dX6_underline_37 rfl (lv_at hl 1 rfl) ?_
      refine va_get (D := G.1) (ci := 6) (v := .ref a0.2.2.1) (C := RX6) (T := TX6) (N := 14) hx hb hts hinX6 hown hK hP 0 rfl rfl 1 (by decide) lk0 (fun _ h9 => h9) rfl dX6_underline_38 ?_
      refine lv_iconst (v := 2) hx hb dX6_underline_41 (by decide) ?_
      refine va_iald hx hb hK hP 2 0 rfl rfl (by decide : inB 2 130) dX6_underline_42 ?_
      refine zl_top (y := S0.2.1 2) rfl ?_
      refine lv_iload_n hx hb dX6_underline_43 rfl (lv_at hl 2 rfl) ?_
      refine lv_ishr hx hb dX6_underline_44 ?_
      refine lv_iconst (v := 1) hx hb dX6_underline_45 (by decide) ?_
      refine lv_iand hx hb dX6_underline_46 ?_
      refine lv_istore (lv' := [(4, .int (((S0.2.1 2) >>> (v1 &&& 31)) &&& 1)), (3, .int w0), (0, .ref a0.1), (1, .int v1), (2, .int v2)]) hx hb dX6_underline_47 hl (by decide) rfl (fun ls hl => ?_)
      refine lv_aload_n hx hb dX6_underline_49 rfl (lv_at hl 2 rfl) ?_
      refine va_get (D := G.1) (ci := 6) (v := .ref a0.2.2.1) (C := RX6) (T := TX6) (N := 14) hx hb hts hinX6 hown hK hP 0 rfl rfl 1 (by decide) lk0 (fun _ h9 => h9) rfl dX6_underline_50 ?_
      refine lv_iconst (v := 2) hx hb dX6_underline_53 (by decide) ?_
      refine lv_iload_n hx hb dX6_underline_54 rfl (lv_at hl 4 rfl) ?_
      refine lv_iconst (v := 1) hx hb dX6_underline_55 (by decide) ?_
      refine lv_icmp_ne (tgt := 72) hx hb dX6_underline_56 (by decide) (fun c3 => ?_) (fun c3 => ?_)
      · replace hf := ob_neg c3 hf
        refine lv_aload_n hx hb dX6_underline_72 rfl (lv_at hl 2 rfl) ?_
        refine va_get (D := G.1) (ci := 6) (v := .ref a0.2.2.1) (C := RX6) (T := TX6) (N := 14) hx hb hts hinX6 hown hK hP 0 rfl rfl 1 (by decide) lk0 (fun _ h9 => h9) rfl dX6_underline_73 ?_
        refine lv_iconst (v := 2) hx hb dX6_underline_76 (by decide) ?_
        refine va_iald hx hb hK hP 2 0 rfl rfl (by decide : inB 2 130) dX6_underline_77 ?_
        refine zl_top (y := S0.2.1 2) rfl ?_
        refine lv_iconst (v := 1) hx hb dX6_underline_78 (by decide) ?_
        refine lv_iload_n hx hb dX6_underline_79 rfl (lv_at hl 3 rfl) ?_
        refine lv_ishl hx hb dX6_underline_80 ?_
        refine lv_iconst (v := (-1)) hx hb dX6_underline_81 (by decide) ?_
        refine lv_ixor hx hb dX6_underline_82 ?_
        refine lv_iand hx hb dX6_underline_83 ?_
        exact blk84 _ _ _ _ hf _ _ hP hD hS _ (lv_sub hl [0] rfl)
      · replace hf := ob_pos c3 hf
        refine lv_aload_n hx hb dX6_underline_59 rfl (lv_at hl 2 rfl) ?_
        refine va_get (D := G.1) (ci := 6) (v := .ref a0.2.2.1) (C := RX6) (T := TX6) (N := 14) hx hb hts hinX6 hown hK hP 0 rfl rfl 1 (by decide) lk0 (fun _ h9 => h9) rfl dX6_underline_60 ?_
        refine lv_iconst (v := 2) hx hb dX6_underline_63 (by decide) ?_
        refine va_iald hx hb hK hP 2 0 rfl rfl (by decide : inB 2 130) dX6_underline_64 ?_
        refine zl_top (y := S0.2.1 2) rfl ?_
        refine lv_iconst (v := 1) hx hb dX6_underline_65 (by decide) ?_
        refine lv_iload_n hx hb dX6_underline_66 rfl (lv_at hl 3 rfl) ?_
        refine lv_ishl hx hb dX6_underline_67 ?_
        refine lv_ior hx hb dX6_underline_68 ?_
        refine lv_goto (tgt := 84) hx hb dX6_underline_69 (by decide) ?_
        exact blk84 _ _ _ _ hf _ _ hP hD hS _ (lv_sub hl [0] rfl)
    · replace hf := ob_neg c2 hf
      refine lv_aload_n hx hb dX6_underline_31 rfl (lv_at hl 1 rfl) ?_
      refine lv_iload_n hx hb dX6_underline_32 rfl (lv_at hl 0 rfl) ?_
      obtain ⟨r4, hr4, hf⟩ := ob_bind hf
      have hFc := va_free (wc := ce_X6 G.2.1 a0 S0) hD hS hA [0, 1, 2, 3, 4, 5, 6, 7, 8, 9] rfl
      refine zc_wr (cf := (fun u => ce_X6 G.2.1 a0 u)) (ws' := ce_X6 G.2.1 a0 r4.2) (va_runV (As := [.int w0]) (rest := []) ⟨hx, hb, hml, hown, hts⟩ (c_X6_refuse l G a0 H.size S0 w0 _ hr4) (cwV 1 hts gX6_underline_X6_refuse rfl rfl rfl (by decide +kernel) ⟨Nat.le_of_ble_eq_true rfl, Nat.le_of_ble_eq_true rfl⟩) ⟨PcM.blind, va_recv hK hP (ci := 6) (q0 := 0) rfl rfl, PcM.ok hP hD hK hE hS hFc⟩ rfl rfl hl.1 rfl (lv_room (Nat.le_of_ble_eq_true rfl)) dX6_underline_33 ⟨Nat.le_refl _, Nat.le_refl _⟩) hP hD hS hA [0, 1, 2, 3, 4, 5, 6, 7, 8, 9] [] [0, 1, 2, 3, 4, 5, 6, 7, 8, 9] rfl rfl (by decide) (by decide) (by decide) rfl (fun H locs hP hD hS => ?_)
      exact fin _ _ _ _ _ _ hf hP hD hS dX6_underline_36
  have go : ∀ (H : Heap) (locs : List Loc), va_P G.1 vwCl (ce_X6 G.2.1 a0 S0) H → va_D A (ce_X6 G.2.1 a0 S0) → va_S A s.heap H locs → ∀ (ls : Array Slot), lv_has ls 5 [(0, .ref a0.1), (1, .int p1), (2, .int p2)] → W p l e (headSpec wsX6_underline rm_X6_underline).room s m args below meth c H locs 0 0 Q (F0 m 0 ls []) := by
    intro H locs hP hD hS ls hl
    refine lv_aload_n hx hb dX6_underline_0 rfl (lv_at hl 0 rfl) ?_
    refine lv_iload_n hx hb dX6_underline_1 rfl (lv_at hl 1 rfl) ?_
    obtain ⟨r5, hr5, hf⟩ := ob_bind hf
    have hFc := va_free (wc := ce_X6 G.2.1 a0 S0) hD hS hA [0, 1, 2, 3, 4, 5, 6, 7, 8, 9] rfl
    refine zc_ro (va_runV (As := [.int p1]) (rest := []) ⟨hx, hb, hml, hown, hts⟩ (c_X6_isEngine l G a0 H.size S0 p1 _ hr5) (cwV 1 hts gX6_underline_X6_isEngine rfl rfl rfl (by decide +kernel) ⟨Nat.le_of_ble_eq_true rfl, Nat.le_of_ble_eq_true rfl⟩) ⟨PcM.blind, va_recv hK hP (ci := 6) (q0 := 0) rfl rfl, PcM.ok hP hD hK hE hS hFc⟩ rfl rfl hl.1 rfl (lv_room (Nat.le_of_ble_eq_true rfl)) dX6_underline_2 ⟨Nat.le_refl _, Nat.le_refl _⟩) hP hD hS hA [0, 1, 2, 3, 4, 5, 6, 7, 8, 9] rfl (fun H locs hP hS => ?_)
    refine lv_if_ne (tgt := 12) hx hb dX6_underline_5 (by decide) (fun c6 => ?_) (fun c6 => ?_)
    · replace hf := ob_neg c6 hf
      refine lv_iload_n hx hb dX6_underline_12 rfl (lv_at hl 2 rfl) ?_
      refine lv_iconst (v := 2) hx hb dX6_underline_13 (by decide) ?_
      obtain ⟨r7, hr7, hf⟩ := ob_bind hf
      have hPc : va_P G.1 vwCl (([] : va_W)) H := hP.sub [] rfl
      have hDc : va_D A (([] : va_W)) := hD.sub [] (by decide) rfl
      have hFc := va_free (wc := ([] : va_W)) hD hS hA [] rfl
      refine zc_ro (va_runS (As := [.int p2, .int 2]) (rest := []) ⟨hx, hb, hml, hown, hts⟩ (c_X6_isIn l G H.size p2 2 _ hr7) (va_cwS 2 hts gX6_underline_X6_isIn rfl rfl rfl (by decide +kernel) ⟨Nat.le_of_ble_eq_true rfl, Nat.le_of_ble_eq_true rfl⟩) ⟨PcM.blind, PcM.ok hPc hDc hK hE hS hFc⟩ rfl rfl hl.1 rfl (lv_room (Nat.le_of_ble_eq_true rfl)) dX6_underline_14 ⟨Nat.le_refl _, Nat.le_refl _⟩) hP hD hS hA [] rfl (fun H locs hP hS => ?_)
      refine lv_if_eq (tgt := 24) hx hb dX6_underline_17 (by decide) (fun c8 => ?_) (fun c8 => ?_)
      · replace hf := ob_pos c8 hf
        refine lv_bipush (v := (-2)) hx hb dX6_underline_24 (by decide) ?_
        exact blk26 _ _ _ _ hf _ _ hP hD hS _ (lv_sub hl [0, 1, 2] rfl)
      · replace hf := ob_neg c8 hf
        refine lv_iconst (v := 0) hx hb dX6_underline_20 (by decide) ?_
        refine lv_goto (tgt := 26) hx hb dX6_underline_21 (by decide) ?_
        exact blk26 _ _ _ _ hf _ _ hP hD hS _ (lv_sub hl [0, 1, 2] rfl)
    · replace hf := ob_pos c6 hf
      refine lv_iconst (v := (-1)) hx hb dX6_underline_8 (by decide) ?_
      refine lv_goto (tgt := 26) hx hb dX6_underline_9 (by decide) ?_
      exact blk26 _ _ _ _ hf _ _ hP hD hS _ (lv_sub hl [0, 1, 2] rfl)
  exact go _ _ hP hD hS _ hl
abbrev rm_X6_freshOf : Room := { frames := 6, cells := 0, slots := 0, locals := 134 }
set_option maxHeartbeats 4000000 in
set_option maxRecDepth 100000 in
theorem c_X6_freshOf (l : Launch) (G : zG) (a0 : AT_X6) (sz : Nat) (S0 : ST_X6) (p1 : Int32) (p2 : Int32) (out : Int32) (hf : f_X6_freshOf S0 p1 p2 = some out) : Met l yX6_freshOf wsX6_freshOf rm_X6_freshOf (PcM G (ce_X6 G.2.1 a0 S0) [.ref a0.1, .int p1, .int p2] sz) (QRo G (ce_X6 G.2.1 a0 S0) out (va_A (ce_X6 G.2.1 a0 S0) sz)) 0 0 (va_A (ce_X6 G.2.1 a0 S0) sz) := by
  rw [f_X6_freshOf] at hf
  refine Met.ofW (cc := cX6_freshOf) (maxL := 5) (ret := (some .int)) (by decide) rfl ?_
  intro p e s m args below meth c s₁ B hml hv
  obtain ⟨hargs, hsz, hP, hK, hD0, hE⟩ := hv
  have hx := B.exec
  have hb := B.bytes
  have hr := B.returns
  have hts := atoms_spec (ws := wsX6_freshOf) B.pre
  have hown : s.vm.findClass RX6 = some m.cls := findClass_of_methodNamed B.named
  have hlocks := B.notSynchronized
  subst hsz
  have hD := hD0.self (sz := s.heap.size)
  generalize hAe : va_A (ce_X6 G.2.1 a0 S0) s.heap.size = A at hD hE ⊢
  have hA : ∀ q : Nat, s.heap.size ≤ q → A q := fun q h => by rw [← hAe]; exact Or.inr h
  have hS : va_S A s.heap s.heap [] := va_S.rf
  have hl := lv_entry ([.ref a0.1, .int p1, .int p2]) (n := 5) (Nat.le_of_ble_eq_true rfl)
  have hent : entryFrame m args 5 = F0 m 0 ((lg_sl ([.ref a0.1, .int p1, .int p2]) ++ List.replicate (5 - (lg_sl ([.ref a0.1, .int p1, .int p2])).length) Slot.unset).toArray) [] := by rw [hargs, lg_entry_eq]
  rw [hent]
  clear hent
  generalize (lg_sl ([.ref a0.1, .int p1, .int p2]) ++ List.replicate (5 - (lg_sl ([.ref a0.1, .int p1, .int p2])).length) Slot.unset).toArray = ls at hl ⊢
  have hl : lv_has ls 5 [(0, .ref a0.1), (1, .int p1), (2, .int p2)] := hl
  have lk0 := hts (Cond.fieldLink RX6 13 "EnginesOnListModel" "s" "[I") (List.mem_of_getElem? (i := 1) rfl)
  have hinX6 : ∀ w ∈ wsX60, w ∈ wsX6_freshOf := by decide +kernel
  have fin : ∀ (pc : Nat) (v : Int32) (H : Heap) (locs : List Loc) (ls : Array Slot), some v = some out → va_P G.1 vwCl (ce_X6 G.2.1 a0 S0) H → va_D A (ce_X6 G.2.1 a0 S0) → va_S A s.heap H locs → decode cX6_freshOf pc = .ok (.ireturn, 1) → W p l e (headSpec wsX6_freshOf rm_X6_freshOf).room s m args below meth c H locs 0 0 (MQ below (QRo G (ce_X6 G.2.1 a0 S0) out A) args s 0 0 A) (F0 m pc ls [.int v]) := fun pc v H locs ls ho hP hD hS hd => W.iret (v := v) hx hb hr (fun t ht hW => ⟨⟨v, (), rfl, Option.some.inj ho, by first | (rw [ht]; exact hP) | (dsimp only; rw [ht]; exact hP)⟩, hS.F ht⟩) hS.2.2 hd
  generalize MQ below (QRo G (ce_X6 G.2.1 a0 S0) out A) args s 0 0 A = Q at fin ⊢
  have blk5 : ∀ (fu5 : Nat), ∀ (v1 : Int32) (v2 : Int32) (v3 : Int32) (v4 : Int32), f_X6_freshOf_b5 S0 fu5 v1 v2 v3 v4 = some out → ∀ (H : Heap) (locs : List Loc), va_P G.1 vwCl (ce_X6 G.2.1 a0 S0) H → va_D A (ce_X6 G.2.1 a0 S0) → va_S A s.heap H locs → ∀ (ls : Array Slot), lv_has ls 5 [(0, .ref a0.1), (1, .int v1), (2, .int v2), (3, .int v3), (4, .int v4)] → W p l e (headSpec wsX6_freshOf rm_X6_freshOf).room s m args below meth c H locs 0 0 Q (F0 m 5 ls []) := by
    intro fu5
    induction fu5 with
    | zero => intro v1 v2 v3 v4 hf; exact ob_none hf
    | succ fu5 ih5 =>
      intro v1 v2 v3 v4 hf H locs hP hD hS ls hl
      rw [f_X6_freshOf_b5] at hf
      refine lv_iload hx hb dX6_freshOf_5 (lv_at hl 4 rfl) ?_
      refine lv_iload_n hx hb dX6_freshOf_7 rfl (lv_at hl 2 rfl) ?_
      refine lv_icmp_ge (tgt := 34) hx hb dX6_freshOf_8 (by decide) (fun c1 => ?_) (fun c1 => ?_)
      · replace hf := ob_pos c1 hf
        refine lv_aload_n hx hb dX6_freshOf_34 rfl (lv_at hl 0 rfl) ?_
        refine lv_iload_n hx hb dX6_freshOf_35 rfl (lv_at hl 3 rfl) ?_
        obtain ⟨r2, hr2, hf⟩ := ob_bind hf
        have hFc := va_free (wc := ce_X6 G.2.1 a0 S0) hD hS hA [0, 1, 2, 3, 4, 5, 6, 7, 8, 9] rfl
        refine zc_ro (va_runV (As := [.int v3]) (rest := []) ⟨hx, hb, hml, hown, hts⟩ (c_X6_newOf l G a0 H.size S0 v3 _ hr2) (cwV 1 hts gX6_freshOf_X6_newOf rfl rfl rfl (by decide +kernel) ⟨Nat.le_of_ble_eq_true rfl, Nat.le_of_ble_eq_true rfl⟩) ⟨PcM.blind, va_recv hK hP (ci := 6) (q0 := 0) rfl rfl, PcM.ok hP hD hK hE hS hFc⟩ rfl rfl hl.1 rfl (lv_room (Nat.le_of_ble_eq_true rfl)) dX6_freshOf_36 ⟨Nat.le_refl _, Nat.le_refl _⟩) hP hD hS hA [0, 1, 2, 3, 4, 5, 6, 7, 8, 9] rfl (fun H locs hP hS => ?_)
        exact fin _ _ _ _ _ hf hP hD hS dX6_freshOf_39
      · replace hf := ob_neg c1 hf
        refine lv_iload_n hx hb dX6_freshOf_11 rfl (lv_at hl 3 rfl) ?_
        refine lv_aload_n hx hb dX6_freshOf_12 rfl (lv_at hl 0 rfl) ?_
        refine lv_iload_n hx hb dX6_freshOf_13 rfl (lv_at hl 1 rfl) ?_
        refine lv_aload_n hx hb dX6_freshOf_14 rfl (lv_at hl 0 rfl) ?_
        refine va_get (D := G.1) (ci := 6) (v := .ref a0.2.2.1) (C := RX6) (T := TX6) (N := 14) hx hb hts hinX6 hown hK hP 0 rfl rfl 1 (by decide) lk0 (fun _ h9 => h9) rfl dX6_freshOf_15 ?_
        refine lv_iconst (v := 1) hx hb dX6_freshOf_18 (by decide) ?_
        refine va_iald hx hb hK hP 2 0 rfl rfl (by decide : inB 1 130) dX6_freshOf_19 ?_
        refine zl_top (y := S0.2.1 1) rfl ?_
        refine lv_iload hx hb dX6_freshOf_20 (lv_at hl 4 rfl) ?_
        refine lv_iadd hx hb dX6_freshOf_22 ?_
        obtain ⟨r3, hr3, hf⟩ := ob_bind hf
        have hFc := va_free (wc := ce_X6 G.2.1 a0 S0) hD hS hA [0, 1, 2, 3, 4, 5, 6, 7, 8, 9] rfl
        refine zc_ro (va_runV (As := [.int v1, .int ((S0.2.1 1) + v4)]) (rest := [.int v3]) ⟨hx, hb, hml, hown, hts⟩ (c_X6_passes l G a0 H.size S0 v1 ((S0.2.1 1) + v4) _ hr3) (cwV 2 hts gX6_freshOf_X6_passes rfl rfl rfl (by decide +kernel) ⟨Nat.le_of_ble_eq_true rfl, Nat.le_of_ble_eq_true rfl⟩) ⟨PcM.blind, va_recv hK hP (ci := 6) (q0 := 0) rfl rfl, PcM.ok hP hD hK hE hS hFc⟩ rfl rfl hl.1 rfl (lv_room (Nat.le_of_ble_eq_true rfl)) dX6_freshOf_23 ⟨Nat.le_refl _, Nat.le_refl _⟩) hP hD hS hA [0, 1, 2, 3, 4, 5, 6, 7, 8, 9] rfl (fun H locs hP hS => ?_)
        refine lv_ior hx hb dX6_freshOf_26 ?_
        refine lv_istore_n (lv' := [(3, .int (v3 ||| r3)), (0, .ref a0.1), (1, .int v1), (2, .int v2), (4, .int v4)]) hx hb dX6_freshOf_27 rfl hl (by decide) rfl (fun ls hl => ?_)
        refine lv_iinc (v := v4 + 1) (lv' := [(4, .int (v4 + 1)), (3, .int (v3 ||| r3)), (0, .ref a0.1), (1, .int v1), (2, .int v2)]) hx hb dX6_freshOf_28 hl (k := 4) rfl rfl (by decide) rfl (fun ls hl => ?_)
        refine lv_goto (tgt := 5) hx hb dX6_freshOf_31 (by decide) ?_
        exact ih5 _ _ _ _ hf _ _ hP hD hS _ (lv_sub hl [2, 3, 4, 1, 0] rfl)
  have go : ∀ (H : Heap) (locs : List Loc), va_P G.1 vwCl (ce_X6 G.2.1 a0 S0) H → va_D A (ce_X6 G.2.1 a0 S0) → va_S A s.heap H locs → ∀ (ls : Array Slot), lv_has ls 5 [(0, .ref a0.1), (1, .int p1), (2, .int p2)] → W p l e (headSpec wsX6_freshOf rm_X6_freshOf).room s m args below meth c H locs 0 0 Q (F0 m 0 ls []) := by
    intro H locs hP hD hS ls hl
    refine lv_iconst (v := 0) hx hb dX6_freshOf_0 (by decide) ?_
    refine lv_istore_n (lv' := [(3, .int 0), (0, .ref a0.1), (1, .int p1), (2, .int p2)]) hx hb dX6_freshOf_1 rfl hl (by decide) rfl (fun ls hl => ?_)
    refine lv_iconst (v := 0) hx hb dX6_freshOf_2 (by decide) ?_
    refine lv_istore (lv' := [(4, .int 0), (3, .int 0), (0, .ref a0.1), (1, .int p1), (2, .int p2)]) hx hb dX6_freshOf_3 hl (by decide) rfl (fun ls hl => ?_)
    exact blk5 4096 _ _ _ _ hf _ _ hP hD hS _ (lv_sub hl [2, 3, 4, 1, 0] rfl)
  exact go _ _ hP hD hS _ hl
abbrev rm_X6_fresh : Room := { frames := 7, cells := 0, slots := 0, locals := 158 }
set_option maxHeartbeats 4000000 in
set_option maxRecDepth 100000 in
theorem c_X6_fresh (l : Launch) (G : zG) (a0 : AT_X6) (sz : Nat) (S0 : ST_X6) (p1 : Int32) (p2 : Int32) (out : Int32 × ST_X6) (hf : f_X6_fresh S0 p1 p2 = some out) : Met l yX6_fresh wsX6_fresh rm_X6_fresh (PcM G (ce_X6 G.2.1 a0 S0) [.ref a0.1, .int p1, .int p2] sz) (QWr G (fun u => ce_X6 G.2.1 a0 u) out (va_A (ce_X6 G.2.1 a0 S0) sz)) 0 0 (va_A (ce_X6 G.2.1 a0 S0) sz) := by
  rw [f_X6_fresh] at hf
  refine Met.ofW (cc := cX6_fresh) (maxL := 4) (ret := (some .int)) (by decide) rfl ?_
  intro p e s m args below meth c s₁ B hml hv
  obtain ⟨hargs, hsz, hP, hK, hD0, hE⟩ := hv
  have hx := B.exec
  have hb := B.bytes
  have hr := B.returns
  have hts := atoms_spec (ws := wsX6_fresh) B.pre
  have hown : s.vm.findClass RX6 = some m.cls := findClass_of_methodNamed B.named
  have hlocks := B.notSynchronized
  subst hsz
  have hD := hD0.self (sz := s.heap.size)
  generalize hAe : va_A (ce_X6 G.2.1 a0 S0) s.heap.size = A at hD hE ⊢
  have hA : ∀ q : Nat, s.heap.size ≤ q → A q := fun q h => by rw [← hAe]; exact Or.inr h
  have hS : va_S A s.heap s.heap [] := va_S.rf
  have hl := lv_entry ([.ref a0.1, .int p1, .int p2]) (n := 4) (Nat.le_of_ble_eq_true rfl)
  have hent : entryFrame m args 4 = F0 m 0 ((lg_sl ([.ref a0.1, .int p1, .int p2]) ++ List.replicate (4 - (lg_sl ([.ref a0.1, .int p1, .int p2])).length) Slot.unset).toArray) [] := by rw [hargs, lg_entry_eq]
  rw [hent]
  clear hent
  generalize (lg_sl ([.ref a0.1, .int p1, .int p2]) ++ List.replicate (4 - (lg_sl ([.ref a0.1, .int p1, .int p2])).length) Slot.unset).toArray = ls at hl ⊢
  have hl : lv_has ls 4 [(0, .ref a0.1), (1, .int p1), (2, .int p2)] := hl
  have fin : ∀ (pc : Nat) (v : Int32) (u : ST_X6) (H : Heap) (locs : List Loc) (ls : Array Slot), some (v, u) = some out → va_P G.1 vwCl (ce_X6 G.2.1 a0 u) H → va_D A (ce_X6 G.2.1 a0 u) → va_S A s.heap H locs → decode cX6_fresh pc = .ok (.ireturn, 1) → W p l e (headSpec wsX6_fresh rm_X6_fresh).room s m args below meth c H locs 0 0 (MQ below (QWr G (fun u => ce_X6 G.2.1 a0 u) out A) args s 0 0 A) (F0 m pc ls [.int v]) := fun pc v u H locs ls ho hP hD hS hd => W.iret (v := v) hx hb hr (fun t ht hW => ⟨⟨v, u, rfl, ob_pair ho, by first | (rw [ht]; exact hP) | (dsimp only; rw [ht]; exact hP), hD⟩, hS.F ht⟩) hS.2.2 hd
  generalize MQ below (QWr G (fun u => ce_X6 G.2.1 a0 u) out A) args s 0 0 A = Q at fin ⊢
  have blk18 : ∀ (S0 : ST_X6) (v1 : Int32) (v2 : Int32) (w0 : Int32), f_X6_fresh_b18 S0 v1 v2 w0 = some out → ∀ (H : Heap) (locs : List Loc), va_P G.1 vwCl (ce_X6 G.2.1 a0 S0) H → va_D A (ce_X6 G.2.1 a0 S0) → va_S A s.heap H locs → ∀ (ls : Array Slot), lv_has ls 4 [(0, .ref a0.1), (1, .int v1), (2, .int v2)] → W p l e (headSpec wsX6_fresh rm_X6_fresh).room s m args below meth c H locs 0 0 Q (F0 m 18 ls [.int w0]) := by
    intro S0 v1 v2 w0 hf H locs hP hD hS ls hl
    rw [f_X6_fresh_b18] at hf
    refine lv_istore_n (lv' := [(3, .int w0), (0, .ref a0.1), (1, .int v1), (2, .int v2)]) hx hb dX6_fresh_18 rfl hl (by decide) rfl (fun ls hl => ?_)
    refine lv_iload_n hx hb dX6_fresh_19 rfl (lv_at hl 0 rfl) ?_
    refine lv_if_eq (tgt := 31) hx hb dX6_fresh_20 (by decide) (fun c1 => ?_) (fun c1 => ?_)
    · replace hf := ob_pos c1 hf
      refine lv_aload_n hx hb dX6_fresh_31 rfl (lv_at hl 1 rfl) ?_
      refine lv_iload_n hx hb dX6_fresh_32 rfl (lv_at hl 2 rfl) ?_
      refine lv_iload_n hx hb dX6_fresh_33 rfl (lv_at hl 3 rfl) ?_
      obtain ⟨r2, hr2, hf⟩ := ob_bind hf
      have hFc := va_free (wc := ce_X6 G.2.1 a0 S0) hD hS hA [0, 1, 2, 3, 4, 5, 6, 7, 8, 9] rfl
      refine zc_ro (va_runV (As := [.int v1, .int v2]) (rest := []) ⟨hx, hb, hml, hown, hts⟩ (c_X6_freshOf l G a0 H.size S0 v1 v2 _ hr2) (cwV 2 hts gX6_fresh_X6_freshOf rfl rfl rfl (by decide +kernel) ⟨Nat.le_of_ble_eq_true rfl, Nat.le_of_ble_eq_true rfl⟩) ⟨PcM.blind, va_recv hK hP (ci := 6) (q0 := 0) rfl rfl, PcM.ok hP hD hK hE hS hFc⟩ rfl rfl hl.1 rfl (lv_room (Nat.le_of_ble_eq_true rfl)) dX6_fresh_34 ⟨Nat.le_refl _, Nat.le_refl _⟩) hP hD hS hA [0, 1, 2, 3, 4, 5, 6, 7, 8, 9] rfl (fun H locs hP hS => ?_)
      exact fin _ _ _ _ _ _ hf hP hD hS dX6_fresh_37
    · replace hf := ob_neg c1 hf
      refine lv_aload_n hx hb dX6_fresh_23 rfl (lv_at hl 1 rfl) ?_
      refine lv_iload_n hx hb dX6_fresh_24 rfl (lv_at hl 0 rfl) ?_
      obtain ⟨r3, hr3, hf⟩ := ob_bind hf
      have hFc := va_free (wc := ce_X6 G.2.1 a0 S0) hD hS hA [0, 1, 2, 3, 4, 5, 6, 7, 8, 9] rfl
      refine zc_wr (cf := (fun u => ce_X6 G.2.1 a0 u)) (ws' := ce_X6 G.2.1 a0 r3.2) (va_runV (As := [.int w0]) (rest := []) ⟨hx, hb, hml, hown, hts⟩ (c_X6_refuse l G a0 H.size S0 w0 _ hr3) (cwV 1 hts gX6_fresh_X6_refuse rfl rfl rfl (by decide +kernel) ⟨Nat.le_of_ble_eq_true rfl, Nat.le_of_ble_eq_true rfl⟩) ⟨PcM.blind, va_recv hK hP (ci := 6) (q0 := 0) rfl rfl, PcM.ok hP hD hK hE hS hFc⟩ rfl rfl hl.1 rfl (lv_room (Nat.le_of_ble_eq_true rfl)) dX6_fresh_25 ⟨Nat.le_refl _, Nat.le_refl _⟩) hP hD hS hA [0, 1, 2, 3, 4, 5, 6, 7, 8, 9] [] [0, 1, 2, 3, 4, 5, 6, 7, 8, 9] rfl rfl (by decide) (by decide) (by decide) rfl (fun H locs hP hD hS => ?_)
      refine lv_goto (tgt := 37) hx hb dX6_fresh_28 (by decide) ?_
      exact fin _ _ _ _ _ _ hf hP hD hS dX6_fresh_37
  have go : ∀ (H : Heap) (locs : List Loc), va_P G.1 vwCl (ce_X6 G.2.1 a0 S0) H → va_D A (ce_X6 G.2.1 a0 S0) → va_S A s.heap H locs → ∀ (ls : Array Slot), lv_has ls 4 [(0, .ref a0.1), (1, .int p1), (2, .int p2)] → W p l e (headSpec wsX6_fresh rm_X6_fresh).room s m args below meth c H locs 0 0 Q (F0 m 0 ls []) := by
    intro H locs hP hD hS ls hl
    refine lv_iload_n hx hb dX6_fresh_0 rfl (lv_at hl 1 rfl) ?_
    obtain ⟨r4, hr4, hf⟩ := ob_bind hf
    have hPc : va_P G.1 vwCl (([] : va_W)) H := hP.sub [] rfl
    have hDc : va_D A (([] : va_W)) := hD.sub [] (by decide) rfl
    have hFc := va_free (wc := ([] : va_W)) hD hS hA [] rfl
    refine zc_ro (va_runS (As := [.int p1]) (rest := []) ⟨hx, hb, hml, hown, hts⟩ (c_X6_isPlace l G H.size p1 _ hr4) (va_cwS 1 hts gX6_fresh_X6_isPlace rfl rfl rfl (by decide +kernel) ⟨Nat.le_of_ble_eq_true rfl, Nat.le_of_ble_eq_true rfl⟩) ⟨PcM.blind, PcM.ok hPc hDc hK hE hS hFc⟩ rfl rfl hl.1 rfl (lv_room (Nat.le_of_ble_eq_true rfl)) dX6_fresh_1 ⟨Nat.le_refl _, Nat.le_refl _⟩) hP hD hS hA [] rfl (fun H locs hP hS => ?_)
    refine lv_if_eq (tgt := 17) hx hb dX6_fresh_4 (by decide) (fun c5 => ?_) (fun c5 => ?_)
    · replace hf := ob_pos c5 hf
      refine lv_iconst (v := (-1)) hx hb dX6_fresh_17 (by decide) ?_
      exact blk18 _ _ _ _ hf _ _ hP hD hS _ (lv_sub hl [0, 1, 2] rfl)
    · replace hf := ob_neg c5 hf
      refine lv_iload_n hx hb dX6_fresh_7 rfl (lv_at hl 2 rfl) ?_
      refine lv_iconst (v := 1) hx hb dX6_fresh_8 (by decide) ?_
      refine lv_bipush (v := 14) hx hb dX6_fresh_9 (by decide) ?_
      obtain ⟨r6, hr6, hf⟩ := ob_bind hf
      have hPc : va_P G.1 vwCl (([] : va_W)) H := hP.sub [] rfl
      have hDc : va_D A (([] : va_W)) := hD.sub [] (by decide) rfl
      have hFc := va_free (wc := ([] : va_W)) hD hS hA [] rfl
      refine zc_ro (va_runS (As := [.int p2, .int 1, .int 14]) (rest := []) ⟨hx, hb, hml, hown, hts⟩ (c_X6_within l G H.size p2 1 14 _ hr6) (va_cwS 3 hts gX6_fresh_X6_within rfl rfl rfl (by decide +kernel) ⟨Nat.le_of_ble_eq_true rfl, Nat.le_of_ble_eq_true rfl⟩) ⟨PcM.blind, PcM.ok hPc hDc hK hE hS hFc⟩ rfl rfl hl.1 rfl (lv_room (Nat.le_of_ble_eq_true rfl)) dX6_fresh_11 ⟨Nat.le_refl _, Nat.le_refl _⟩) hP hD hS hA [] rfl (fun H locs hP hS => ?_)
      refine lv_goto (tgt := 18) hx hb dX6_fresh_14 (by decide) ?_
      exact blk18 _ _ _ _ hf _ _ hP hD hS _ (lv_sub hl [0, 1, 2] rfl)
  exact go _ _ hP hD hS _ hl
abbrev rm_X6_where : Room := { frames := 7, cells := 0, slots := 0, locals := 158 }
set_option maxHeartbeats 4000000 in
set_option maxRecDepth 100000 in
theorem c_X6_where (l : Launch) (G : zG) (a0 : AT_X6) (sz : Nat) (S0 : ST_X6) (p1 : Int32) (out : Int32 × ST_X6) (hf : f_X6_where S0 p1 = some out) : Met l yX6_where wsX6_where rm_X6_where (PcM G (ce_X6 G.2.1 a0 S0) [.ref a0.1, .int p1] sz) (QWr G (fun u => ce_X6 G.2.1 a0 u) out (va_A (ce_X6 G.2.1 a0 S0) sz)) 0 0 (va_A (ce_X6 G.2.1 a0 S0) sz) := by
  rw [f_X6_where] at hf
  refine Met.ofW (cc := cX6_where) (maxL := 5) (ret := (some .int)) (by decide) rfl ?_
  intro p e s m args below meth c s₁ B hml hv
  obtain ⟨hargs, hsz, hP, hK, hD0, hE⟩ := hv
  have hx := B.exec
  have hb := B.bytes
  have hr := B.returns
  have hts := atoms_spec (ws := wsX6_where) B.pre
  have hown : s.vm.findClass RX6 = some m.cls := findClass_of_methodNamed B.named
  have hlocks := B.notSynchronized
  subst hsz
  have hD := hD0.self (sz := s.heap.size)
  generalize hAe : va_A (ce_X6 G.2.1 a0 S0) s.heap.size = A at hD hE ⊢
  have hA : ∀ q : Nat, s.heap.size ≤ q → A q := fun q h => by rw [← hAe]; exact Or.inr h
  have hS : va_S A s.heap s.heap [] := va_S.rf
  have hl := lv_entry ([.ref a0.1, .int p1]) (n := 5) (Nat.le_of_ble_eq_true rfl)
  have hent : entryFrame m args 5 = F0 m 0 ((lg_sl ([.ref a0.1, .int p1]) ++ List.replicate (5 - (lg_sl ([.ref a0.1, .int p1])).length) Slot.unset).toArray) [] := by rw [hargs, lg_entry_eq]
  rw [hent]
  clear hent
  generalize (lg_sl ([.ref a0.1, .int p1]) ++ List.replicate (5 - (lg_sl ([.ref a0.1, .int p1])).length) Slot.unset).toArray = ls at hl ⊢
  have hl : lv_has ls 5 [(0, .ref a0.1), (1, .int p1)] := hl
  have fin : ∀ (pc : Nat) (v : Int32) (u : ST_X6) (H : Heap) (locs : List Loc) (ls : Array Slot), some (v, u) = some out → va_P G.1 vwCl (ce_X6 G.2.1 a0 u) H → va_D A (ce_X6 G.2.1 a0 u) → va_S A s.heap H locs → decode cX6_where pc = .ok (.ireturn, 1) → W p l e (headSpec wsX6_where rm_X6_where).room s m args below meth c H locs 0 0 (MQ below (QWr G (fun u => ce_X6 G.2.1 a0 u) out A) args s 0 0 A) (F0 m pc ls [.int v]) := fun pc v u H locs ls ho hP hD hS hd => W.iret (v := v) hx hb hr (fun t ht hW => ⟨⟨v, u, rfl, ob_pair ho, by first | (rw [ht]; exact hP) | (dsimp only; rw [ht]; exact hP), hD⟩, hS.F ht⟩) hS.2.2 hd
  generalize MQ below (QWr G (fun u => ce_X6 G.2.1 a0 u) out A) args s 0 0 A = Q at fin ⊢
  have blk23 : ∀ (fu23 : Nat), ∀ (S0 : ST_X6) (v1 : Int32) (v3 : Int32) (v4 : Int32), f_X6_where_b23 fu23 S0 v1 v3 v4 = some out → ∀ (H : Heap) (locs : List Loc), va_P G.1 vwCl (ce_X6 G.2.1 a0 S0) H → va_D A (ce_X6 G.2.1 a0 S0) → va_S A s.heap H locs → ∀ (ls : Array Slot), lv_has ls 5 [(0, .ref a0.1), (1, .int v1), (3, .int v3), (4, .int v4)] → W p l e (headSpec wsX6_where rm_X6_where).room s m args below meth c H locs 0 0 Q (F0 m 23 ls []) := by
    intro fu23
    induction fu23 with
    | zero => intro S0 v1 v3 v4 hf; exact ob_none hf
    | succ fu23 ih23 =>
      intro S0 v1 v3 v4 hf H locs hP hD hS ls hl
      rw [f_X6_where_b23] at hf
      have blk48 : ∀ (S0 : ST_X6) (v1 : Int32) (v3 : Int32) (v4 : Int32), f_X6_where_b48 (f_X6_where_b23 fu23) S0 v1 v3 v4 = some out → ∀ (H : Heap) (locs : List Loc), va_P G.1 vwCl (ce_X6 G.2.1 a0 S0) H → va_D A (ce_X6 G.2.1 a0 S0) → va_S A s.heap H locs → ∀ (ls : Array Slot), lv_has ls 5 [(0, .ref a0.1), (1, .int v1), (3, .int v3), (4, .int v4)] → W p l e (headSpec wsX6_where rm_X6_where).room s m args below meth c H locs 0 0 Q (F0 m 48 ls []) := by
        intro S0 v1 v3 v4 hf H locs hP hD hS ls hl
        rw [f_X6_where_b48] at hf
        refine lv_iinc (v := v4 + 1) (lv' := [(4, .int (v4 + 1)), (0, .ref a0.1), (1, .int v1), (3, .int v3)]) hx hb dX6_where_48 hl (k := 3) rfl rfl (by decide) rfl (fun ls hl => ?_)
        refine lv_goto (tgt := 23) hx hb dX6_where_51 (by decide) ?_
        exact ih23 _ _ _ _ hf _ _ hP hD hS _ (lv_sub hl [1, 2, 3, 0] rfl)
      refine lv_iload hx hb dX6_where_23 (lv_at hl 3 rfl) ?_
      refine lv_iconst (v := 5) hx hb dX6_where_25 (by decide) ?_
      refine lv_icmp_ge (tgt := 54) hx hb dX6_where_26 (by decide) (fun c1 => ?_) (fun c1 => ?_)
      · replace hf := ob_pos c1 hf
        refine lv_iload_n hx hb dX6_where_54 rfl (lv_at hl 2 rfl) ?_
        exact fin _ _ _ _ _ _ hf hP hD hS dX6_where_55
      · replace hf := ob_neg c1 hf
        refine lv_aload_n hx hb dX6_where_29 rfl (lv_at hl 0 rfl) ?_
        refine lv_iload hx hb dX6_where_30 (lv_at hl 3 rfl) ?_
        refine lv_iload_n hx hb dX6_where_32 rfl (lv_at hl 1 rfl) ?_
        obtain ⟨r2, hr2, hf⟩ := ob_bind hf
        have hFc := va_free (wc := ce_X6 G.2.1 a0 S0) hD hS hA [0, 1, 2, 3, 4, 5, 6, 7, 8, 9] rfl
        refine zc_ro (va_runV (As := [.int v4, .int v1]) (rest := []) ⟨hx, hb, hml, hown, hts⟩ (c_X6_freshOf l G a0 H.size S0 v4 v1 _ hr2) (cwV 2 hts gX6_where_X6_freshOf rfl rfl rfl (by decide +kernel) ⟨Nat.le_of_ble_eq_true rfl, Nat.le_of_ble_eq_true rfl⟩) ⟨PcM.blind, va_recv hK hP (ci := 6) (q0 := 0) rfl rfl, PcM.ok hP hD hK hE hS hFc⟩ rfl rfl hl.1 rfl (lv_room (Nat.le_of_ble_eq_true rfl)) dX6_where_33 ⟨Nat.le_refl _, Nat.le_refl _⟩) hP hD hS hA [0, 1, 2, 3, 4, 5, 6, 7, 8, 9] rfl (fun H locs hP hS => ?_)
        refine lv_aload_n hx hb dX6_where_36 rfl (lv_at hl 0 rfl) ?_
        refine lv_iload_n hx hb dX6_where_37 rfl (lv_at hl 2 rfl) ?_
        refine lv_iload_n hx hb dX6_where_38 rfl (lv_at hl 1 rfl) ?_
        obtain ⟨r3, hr3, hf⟩ := ob_bind hf
        have hFc := va_free (wc := ce_X6 G.2.1 a0 S0) hD hS hA [0, 1, 2, 3, 4, 5, 6, 7, 8, 9] rfl
        refine zc_ro (va_runV (As := [.int v3, .int v1]) (rest := [.int r2]) ⟨hx, hb, hml, hown, hts⟩ (c_X6_freshOf l G a0 H.size S0 v3 v1 _ hr3) (cwV 2 hts gX6_where_X6_freshOf rfl rfl rfl (by decide +kernel) ⟨Nat.le_of_ble_eq_true rfl, Nat.le_of_ble_eq_true rfl⟩) ⟨PcM.blind, va_recv hK hP (ci := 6) (q0 := 0) rfl rfl, PcM.ok hP hD hK hE hS hFc⟩ rfl rfl hl.1 rfl (lv_room (Nat.le_of_ble_eq_true rfl)) dX6_where_39 ⟨Nat.le_refl _, Nat.le_refl _⟩) hP hD hS hA [0, 1, 2, 3, 4, 5, 6, 7, 8, 9] rfl (fun H locs hP hS => ?_)
        refine lv_icmp_le (tgt := 48) hx hb dX6_where_42 (by decide) (fun c4 => ?_) (fun c4 => ?_)
        · replace hf := ob_pos c4 hf
          exact blk48 _ _ _ _ hf _ _ hP hD hS _ (lv_sub hl [0, 1, 2, 3] rfl)
        · replace hf := ob_neg c4 hf
          refine lv_iload hx hb dX6_where_45 (lv_at hl 3 rfl) ?_
          refine lv_istore_n (lv' := [(3, .int v4), (0, .ref a0.1), (1, .int v1), (4, .int v4)]) hx hb dX6_where_47 rfl hl (by decide) rfl (fun ls hl => ?_)
          exact blk48 _ _ _ _ hf _ _ hP hD hS _ (lv_sub hl [1, 2, 0, 3] rfl)
  have go : ∀ (H : Heap) (locs : List Loc), va_P G.1 vwCl (ce_X6 G.2.1 a0 S0) H → va_D A (ce_X6 G.2.1 a0 S0) → va_S A s.heap H locs → ∀ (ls : Array Slot), lv_has ls 5 [(0, .ref a0.1), (1, .int p1)] → W p l e (headSpec wsX6_where rm_X6_where).room s m args below meth c H locs 0 0 Q (F0 m 0 ls []) := by
    intro H locs hP hD hS ls hl
    refine lv_iload_n hx hb dX6_where_0 rfl (lv_at hl 1 rfl) ?_
    refine lv_iconst (v := 1) hx hb dX6_where_1 (by decide) ?_
    refine lv_bipush (v := 14) hx hb dX6_where_2 (by decide) ?_
    obtain ⟨r5, hr5, hf⟩ := ob_bind hf
    have hPc : va_P G.1 vwCl (([] : va_W)) H := hP.sub [] rfl
    have hDc : va_D A (([] : va_W)) := hD.sub [] (by decide) rfl
    have hFc := va_free (wc := ([] : va_W)) hD hS hA [] rfl
    refine zc_ro (va_runS (As := [.int p1, .int 1, .int 14]) (rest := []) ⟨hx, hb, hml, hown, hts⟩ (c_X6_within l G H.size p1 1 14 _ hr5) (va_cwS 3 hts gX6_where_X6_within rfl rfl rfl (by decide +kernel) ⟨Nat.le_of_ble_eq_true rfl, Nat.le_of_ble_eq_true rfl⟩) ⟨PcM.blind, PcM.ok hPc hDc hK hE hS hFc⟩ rfl rfl hl.1 rfl (lv_room (Nat.le_of_ble_eq_true rfl)) dX6_where_4 ⟨Nat.le_refl _, Nat.le_refl _⟩) hP hD hS hA [] rfl (fun H locs hP hS => ?_)
    refine lv_istore_n (lv' := [(2, .int r5), (0, .ref a0.1), (1, .int p1)]) hx hb dX6_where_7 rfl hl (by decide) rfl (fun ls hl => ?_)
    refine lv_iload_n hx hb dX6_where_8 rfl (lv_at hl 0 rfl) ?_
    refine lv_if_eq (tgt := 18) hx hb dX6_where_9 (by decide) (fun c6 => ?_) (fun c6 => ?_)
    · replace hf := ob_pos c6 hf
      refine lv_iconst (v := 0) hx hb dX6_where_18 (by decide) ?_
      refine lv_istore_n (lv' := [(3, .int 0), (2, .int r5), (0, .ref a0.1), (1, .int p1)]) hx hb dX6_where_19 rfl hl (by decide) rfl (fun ls hl => ?_)
      refine lv_iconst (v := 1) hx hb dX6_where_20 (by decide) ?_
      refine lv_istore (lv' := [(4, .int 1), (3, .int 0), (2, .int r5), (0, .ref a0.1), (1, .int p1)]) hx hb dX6_where_21 hl (by decide) rfl (fun ls hl => ?_)
      exact blk23 4096 _ _ _ _ hf _ _ hP hD hS _ (lv_sub hl [3, 4, 1, 0] rfl)
    · replace hf := ob_neg c6 hf
      refine lv_aload_n hx hb dX6_where_12 rfl (lv_at hl 1 rfl) ?_
      refine lv_iload_n hx hb dX6_where_13 rfl (lv_at hl 0 rfl) ?_
      obtain ⟨r7, hr7, hf⟩ := ob_bind hf
      have hFc := va_free (wc := ce_X6 G.2.1 a0 S0) hD hS hA [0, 1, 2, 3, 4, 5, 6, 7, 8, 9] rfl
      refine zc_wr (cf := (fun u => ce_X6 G.2.1 a0 u)) (ws' := ce_X6 G.2.1 a0 r7.2) (va_runV (As := [.int r5]) (rest := []) ⟨hx, hb, hml, hown, hts⟩ (c_X6_refuse l G a0 H.size S0 r5 _ hr7) (cwV 1 hts gX6_where_X6_refuse rfl rfl rfl (by decide +kernel) ⟨Nat.le_of_ble_eq_true rfl, Nat.le_of_ble_eq_true rfl⟩) ⟨PcM.blind, va_recv hK hP (ci := 6) (q0 := 0) rfl rfl, PcM.ok hP hD hK hE hS hFc⟩ rfl rfl hl.1 rfl (lv_room (Nat.le_of_ble_eq_true rfl)) dX6_where_14 ⟨Nat.le_refl _, Nat.le_refl _⟩) hP hD hS hA [0, 1, 2, 3, 4, 5, 6, 7, 8, 9] [] [0, 1, 2, 3, 4, 5, 6, 7, 8, 9] rfl rfl (by decide) (by decide) (by decide) rfl (fun H locs hP hD hS => ?_)
      exact fin _ _ _ _ _ _ hf hP hD hS dX6_where_17
  exact go _ _ hP hD hS _ hl
def rm_X6_plans (fu : Nat) : Room := { frames := fu * 1 + 10, cells := 0, slots := 0, locals := fu * 40 + 400 }
set_option maxHeartbeats 4000000 in
set_option maxRecDepth 100000 in
theorem c_X6_plans : ∀ (fu : Nat) (l : Launch) (G : zG) (a0 : AT_X6) (sz : Nat) (S0 : ST_X6) (p1 : Int32) (p2 : Int32) (p3 : Int32) (p4 : Int32) (out : ST_X6), f_X6_plans fu S0 p1 p2 p3 p4 = some out → Met l yX6_plans wsX6_plans (rm_X6_plans fu) (PcM G (ce_X6 G.2.1 a0 S0) [.ref a0.1, .int p1, .int p2, .int p3, .int p4] sz) (QWv G (fun u => ce_X6 G.2.1 a0 u) out (va_A (ce_X6 G.2.1 a0 S0) sz)) 0 0 (va_A (ce_X6 G.2.1 a0 S0) sz) := by
  intro fu
  induction fu with
  | zero => intro l G a0 sz S0 p1 p2 p3 p4 out hf; exact ob_none hf
  | succ fu ihr =>
    intro l G a0 sz S0 p1 p2 p3 p4 out hf
    rw [f_X6_plans] at hf
    refine Met.ofW (cc := cX6_plans) (maxL := 7) (ret := none) (by decide) rfl ?_
    intro p e s m args below meth c s₁ B hml hv
    obtain ⟨hargs, hsz, hP, hK, hD0, hE⟩ := hv
    have hx := B.exec
    have hb := B.bytes
    have hr := B.returns
    have hts := atoms_spec (ws := wsX6_plans) B.pre
    have hown : s.vm.findClass RX6 = some m.cls := findClass_of_methodNamed B.named
    have hlocks := B.notSynchronized
    subst hsz
    have hD := hD0.self (sz := s.heap.size)
    generalize hAe : va_A (ce_X6 G.2.1 a0 S0) s.heap.size = A at hD hE ⊢
    have hA : ∀ q : Nat, s.heap.size ≤ q → A q := fun q h => by rw [← hAe]; exact Or.inr h
    have hS : va_S A s.heap s.heap [] := va_S.rf
    have hl := lv_entry ([.ref a0.1, .int p1, .int p2, .int p3, .int p4]) (n := 7) (Nat.le_of_ble_eq_true rfl)
    have hent : entryFrame m args 7 = F0 m 0 ((lg_sl ([.ref a0.1, .int p1, .int p2, .int p3, .int p4]) ++ List.replicate (7 - (lg_sl ([.ref a0.1, .int p1, .int p2, .int p3, .int p4])).length) Slot.unset).toArray) [] := by rw [hargs, lg_entry_eq]
    rw [hent]
    clear hent
    generalize (lg_sl ([.ref a0.1, .int p1, .int p2, .int p3, .int p4]) ++ List.replicate (7 - (lg_sl ([.ref a0.1, .int p1, .int p2, .int p3, .int p4])).length) Slot.unset).toArray = ls at hl ⊢
    have hl : lv_has ls 7 [(0, .ref a0.1), (1, .int p1), (2, .int p2), (3, .int p3), (4, .int p4)] := hl
    have lk0 := hts (Cond.fieldLink RX6 31 "EnginesOnListModel" "bestPlan" "[I") (List.mem_of_getElem? (i := 2) rfl)
    have lk1 := hts (Cond.fieldLink RX6 28 "EnginesOnListModel" "tried" "[I") (List.mem_of_getElem? (i := 3) rfl)
    have lk2 := hts (Cond.fieldLink RX6 13 "EnginesOnListModel" "s" "[I") (List.mem_of_getElem? (i := 4) rfl)
    have lk3 := hts (Cond.fieldLink RX6 128 "EnginesOnListModel" "bestNew" "I") (List.mem_of_getElem? (i := 1) rfl)
    have hinX6 : ∀ w ∈ wsX60, w ∈ wsX6_plans := by decide +kernel
    have fin : ∀ (pc : Nat) (u : ST_X6) (H : Heap) (locs : List Loc) (ls : Array Slot), some u = some out → va_P G.1 vwCl (ce_X6 G.2.1 a0 u) H → va_D A (ce_X6 G.2.1 a0 u) → va_S A s.heap H locs → decode cX6_plans pc = .ok (.return_, 1) → W p l e (headSpec wsX6_plans (rm_X6_plans (fu + 1))).room s m args below meth c H locs 0 0 (MQ below (QWv G (fun u => ce_X6 G.2.1 a0 u) out A) args s 0 0 A) (F0 m pc ls []) := fun pc u H locs ls ho hP hD hS hd => W.vret hx hb hr (fun t ht hW => ⟨⟨u, rfl, Option.some.inj ho, by first | (rw [ht]; exact hP) | (dsimp only; rw [ht]; exact hP), hD⟩, hS.F ht⟩) hS.2.2 hd
    generalize MQ below (QWv G (fun u => ce_X6 G.2.1 a0 u) out A) args s 0 0 A = Q at fin ⊢
    have blk32 : ∀ (fu32 : Nat), ∀ (S0 : ST_X6) (v2 : Int32) (v6 : Int32), f_X6_plans_b32 (f_X6_plans fu) fu32 S0 v2 v6 = some out → ∀ (H : Heap) (locs : List Loc), va_P G.1 vwCl (ce_X6 G.2.1 a0 S0) H → va_D A (ce_X6 G.2.1 a0 S0) → va_S A s.heap H locs → ∀ (ls : Array Slot), lv_has ls 7 [(0, .ref a0.1), (2, .int v2), (6, .int v6)] → W p l e (headSpec wsX6_plans (rm_X6_plans (fu + 1))).room s m args below meth c H locs 0 0 Q (F0 m 32 ls []) := by
      intro fu32
      induction fu32 with
      | zero => intro S0 v2 v6 hf; exact ob_none hf
      | succ fu32 ih32 =>
        intro S0 v2 v6 hf H locs hP hD hS ls hl
        rw [f_X6_plans_b32] at hf
        refine lv_iload hx hb dX6_plans_32 (lv_at hl 2 rfl) ?_
        refine lv_iload_n hx hb dX6_plans_34 rfl (lv_at hl 1 rfl) ?_
        refine lv_icmp_ge (tgt := 58) hx hb dX6_plans_35 (by decide) (fun c1 => ?_) (fun c1 => ?_)
        · replace hf := ob_pos c1 hf
          exact fin _ _ _ _ _ hf hP hD hS dX6_plans_58
        · replace hf := ob_neg c1 hf
          refine lv_aload_n hx hb dX6_plans_38 rfl (lv_at hl 0 rfl) ?_
          refine va_get (D := G.1) (ci := 6) (v := .ref a0.2.2.2.2.2.2.2.2.1) (C := RX6) (T := TX6) (N := 14) hx hb hts hinX6 hown hK hP 0 rfl rfl 10 (by decide) lk0 (fun _ h9 => h9) rfl dX6_plans_39 ?_
          refine lv_iload hx hb dX6_plans_42 (lv_at hl 2 rfl) ?_
          refine lv_aload_n hx hb dX6_plans_44 rfl (lv_at hl 0 rfl) ?_
          refine va_get (D := G.1) (ci := 6) (v := .ref a0.2.2.2.2.2.2.2.1) (C := RX6) (T := TX6) (N := 14) hx hb hts hinX6 hown hK hP 0 rfl rfl 9 (by decide) lk1 (fun _ h9 => h9) rfl dX6_plans_45 ?_
          refine lv_iload hx hb dX6_plans_48 (lv_at hl 2 rfl) ?_
          obtain ⟨hg2, hf⟩ := ob_guard hf
          refine va_iald hx hb hK hP 7 0 rfl rfl hg2 dX6_plans_50 ?_
          obtain ⟨hg3, hf⟩ := ob_guard hf
          refine va_iast hx hb hK hP hD hS 8 0 rfl rfl hg3 dX6_plans_51 (fun H locs hP hD hS => ?_)
          have hP : va_P G.1 vwCl (ce_X6 G.2.1 a0 (S0.1, S0.2.1, S0.2.2.1, S0.2.2.2.1, S0.2.2.2.2.1, S0.2.2.2.2.2.1, S0.2.2.2.2.2.2.1, S0.2.2.2.2.2.2.2.1, S0.2.2.2.2.2.2.2.2.1, S0.2.2.2.2.2.2.2.2.2.1, (upd S0.2.2.2.2.2.2.2.2.2.2.1 (v6.toNatClampNeg) (S0.2.2.2.2.2.2.2.2.2.1 v6.toNatClampNeg)), S0.2.2.2.2.2.2.2.2.2.2.2.1, S0.2.2.2.2.2.2.2.2.2.2.2.2.1, S0.2.2.2.2.2.2.2.2.2.2.2.2.2)) H := hP
          have hD : va_D A (ce_X6 G.2.1 a0 (S0.1, S0.2.1, S0.2.2.1, S0.2.2.2.1, S0.2.2.2.2.1, S0.2.2.2.2.2.1, S0.2.2.2.2.2.2.1, S0.2.2.2.2.2.2.2.1, S0.2.2.2.2.2.2.2.2.1, S0.2.2.2.2.2.2.2.2.2.1, (upd S0.2.2.2.2.2.2.2.2.2.2.1 (v6.toNatClampNeg) (S0.2.2.2.2.2.2.2.2.2.1 v6.toNatClampNeg)), S0.2.2.2.2.2.2.2.2.2.2.2.1, S0.2.2.2.2.2.2.2.2.2.2.2.2.1, S0.2.2.2.2.2.2.2.2.2.2.2.2.2)) := hD
          refine lv_iinc (v := v6 + 1) (lv' := [(6, .int (v6 + 1)), (0, .ref a0.1), (2, .int v2)]) hx hb dX6_plans_52 hl (k := 2) rfl rfl (by decide) rfl (fun ls hl => ?_)
          refine lv_goto (tgt := 32) hx hb dX6_plans_55 (by decide) ?_
          exact ih32 _ _ _ hf _ _ hP hD hS _ (lv_sub hl [1, 2, 0] rfl)
    have blk62 : ∀ (fu62 : Nat), ∀ (S0 : ST_X6) (v1 : Int32) (v2 : Int32) (v3 : Int32) (v4 : Int32) (v5 : Int32), f_X6_plans_b62 (f_X6_plans fu) fu62 S0 v1 v2 v3 v4 v5 = some out → ∀ (H : Heap) (locs : List Loc), va_P G.1 vwCl (ce_X6 G.2.1 a0 S0) H → va_D A (ce_X6 G.2.1 a0 S0) → va_S A s.heap H locs → ∀ (ls : Array Slot), lv_has ls 7 [(0, .ref a0.1), (1, .int v1), (2, .int v2), (3, .int v3), (4, .int v4), (5, .int v5)] → W p l e (headSpec wsX6_plans (rm_X6_plans (fu + 1))).room s m args below meth c H locs 0 0 Q (F0 m 62 ls []) := by
      intro fu62
      induction fu62 with
      | zero => intro S0 v1 v2 v3 v4 v5 hf; exact ob_none hf
      | succ fu62 ih62 =>
        intro S0 v1 v2 v3 v4 v5 hf H locs hP hD hS ls hl
        rw [f_X6_plans_b62] at hf
        have blk138 : ∀ (S0 : ST_X6) (v1 : Int32) (v2 : Int32) (v3 : Int32) (v4 : Int32) (v5 : Int32), f_X6_plans_b138 (f_X6_plans fu) (f_X6_plans_b62 (f_X6_plans fu) fu62) S0 v1 v2 v3 v4 v5 = some out → ∀ (H : Heap) (locs : List Loc), va_P G.1 vwCl (ce_X6 G.2.1 a0 S0) H → va_D A (ce_X6 G.2.1 a0 S0) → va_S A s.heap H locs → ∀ (ls : Array Slot), lv_has ls 7 [(0, .ref a0.1), (1, .int v1), (2, .int v2), (3, .int v3), (4, .int v4), (5, .int v5)] → W p l e (headSpec wsX6_plans (rm_X6_plans (fu + 1))).room s m args below meth c H locs 0 0 Q (F0 m 138 ls []) := by
          intro S0 v1 v2 v3 v4 v5 hf H locs hP hD hS ls hl
          rw [f_X6_plans_b138] at hf
          refine lv_iinc (v := v5 + 1) (lv' := [(5, .int (v5 + 1)), (0, .ref a0.1), (1, .int v1), (2, .int v2), (3, .int v3), (4, .int v4)]) hx hb dX6_plans_138 hl (k := 5) rfl rfl (by decide) rfl (fun ls hl => ?_)
          refine lv_goto (tgt := 62) hx hb dX6_plans_141 (by decide) ?_
          exact ih62 _ _ _ _ _ _ hf _ _ hP hD hS _ (lv_sub hl [1, 2, 3, 4, 5, 0] rfl)
        have blk90 : ∀ (S0 : ST_X6) (v1 : Int32) (v2 : Int32) (v3 : Int32) (v4 : Int32) (v5 : Int32) (w0 : Int32), f_X6_plans_b90 (f_X6_plans fu) (f_X6_plans_b62 (f_X6_plans fu) fu62) S0 v1 v2 v3 v4 v5 w0 = some out → ∀ (H : Heap) (locs : List Loc), va_P G.1 vwCl (ce_X6 G.2.1 a0 S0) H → va_D A (ce_X6 G.2.1 a0 S0) → va_S A s.heap H locs → ∀ (ls : Array Slot), lv_has ls 7 [(0, .ref a0.1), (1, .int v1), (2, .int v2), (3, .int v3), (4, .int v4), (5, .int v5)] → W p l e (headSpec wsX6_plans (rm_X6_plans (fu + 1))).room s m args below meth c H locs 0 0 Q (F0 m 90 ls [.int w0]) := by
          intro S0 v1 v2 v3 v4 v5 w0 hf H locs hP hD hS ls hl
          rw [f_X6_plans_b90] at hf
          refine lv_istore (lv' := [(6, .int w0), (0, .ref a0.1), (1, .int v1), (2, .int v2), (3, .int v3), (4, .int v4), (5, .int v5)]) hx hb dX6_plans_90 hl (by decide) rfl (fun ls hl => ?_)
          refine lv_iload hx hb dX6_plans_92 (lv_at hl 0 rfl) ?_
          refine lv_iload_n hx hb dX6_plans_94 rfl (lv_at hl 4 rfl) ?_
          refine lv_icmp_le (tgt := 101) hx hb dX6_plans_95 (by decide) (fun c4 => ?_) (fun c4 => ?_)
          · replace hf := ob_pos c4 hf
            refine lv_aload_n hx hb dX6_plans_101 rfl (lv_at hl 1 rfl) ?_
            refine va_get (D := G.1) (ci := 6) (v := .ref a0.2.2.2.2.2.2.2.1) (C := RX6) (T := TX6) (N := 14) hx hb hts hinX6 hown hK hP 0 rfl rfl 9 (by decide) lk1 (fun _ h9 => h9) rfl dX6_plans_102 ?_
            refine lv_iload_n hx hb dX6_plans_105 rfl (lv_at hl 2 rfl) ?_
            refine lv_iload hx hb dX6_plans_106 (lv_at hl 6 rfl) ?_
            obtain ⟨hg5, hf⟩ := ob_guard hf
            refine va_iast hx hb hK hP hD hS 7 0 rfl rfl hg5 dX6_plans_108 (fun H locs hP hD hS => ?_)
            have hP : va_P G.1 vwCl (ce_X6 G.2.1 a0 (S0.1, S0.2.1, S0.2.2.1, S0.2.2.2.1, S0.2.2.2.2.1, S0.2.2.2.2.2.1, S0.2.2.2.2.2.2.1, S0.2.2.2.2.2.2.2.1, S0.2.2.2.2.2.2.2.2.1, (upd S0.2.2.2.2.2.2.2.2.2.1 (v1.toNatClampNeg) v5), S0.2.2.2.2.2.2.2.2.2.2.1, S0.2.2.2.2.2.2.2.2.2.2.2.1, S0.2.2.2.2.2.2.2.2.2.2.2.2.1, S0.2.2.2.2.2.2.2.2.2.2.2.2.2)) H := hP
            have hD : va_D A (ce_X6 G.2.1 a0 (S0.1, S0.2.1, S0.2.2.1, S0.2.2.2.1, S0.2.2.2.2.1, S0.2.2.2.2.2.1, S0.2.2.2.2.2.2.1, S0.2.2.2.2.2.2.2.1, S0.2.2.2.2.2.2.2.2.1, (upd S0.2.2.2.2.2.2.2.2.2.1 (v1.toNatClampNeg) v5), S0.2.2.2.2.2.2.2.2.2.2.1, S0.2.2.2.2.2.2.2.2.2.2.2.1, S0.2.2.2.2.2.2.2.2.2.2.2.2.1, S0.2.2.2.2.2.2.2.2.2.2.2.2.2)) := hD
            refine lv_aload_n hx hb dX6_plans_109 rfl (lv_at hl 1 rfl) ?_
            refine lv_iload_n hx hb dX6_plans_110 rfl (lv_at hl 2 rfl) ?_
            refine lv_iconst (v := 1) hx hb dX6_plans_111 (by decide) ?_
            refine lv_iadd hx hb dX6_plans_112 ?_
            refine lv_iload_n hx hb dX6_plans_113 rfl (lv_at hl 3 rfl) ?_
            refine lv_iload_n hx hb dX6_plans_114 rfl (lv_at hl 4 rfl) ?_
            refine lv_iload hx hb dX6_plans_115 (lv_at hl 0 rfl) ?_
            refine lv_isub hx hb dX6_plans_117 ?_
            refine lv_iload hx hb dX6_plans_118 (lv_at hl 5 rfl) ?_
            refine lv_aload_n hx hb dX6_plans_120 rfl (lv_at hl 1 rfl) ?_
            refine lv_iload hx hb dX6_plans_121 (lv_at hl 6 rfl) ?_
            refine lv_aload_n hx hb dX6_plans_123 rfl (lv_at hl 1 rfl) ?_
            refine va_get (D := G.1) (ci := 6) (v := .ref a0.2.2.1) (C := RX6) (T := TX6) (N := 14) hx hb hts hinX6 hown hK hP 0 rfl rfl 1 (by decide) lk2 (fun _ h9 => h9) rfl dX6_plans_124 ?_
            refine lv_iconst (v := 1) hx hb dX6_plans_127 (by decide) ?_
            refine va_iald hx hb hK hP 2 0 rfl rfl (by decide : inB 1 130) dX6_plans_128 ?_
            refine zl_top (y := S0.2.1 1) rfl ?_
            refine lv_iload_n hx hb dX6_plans_129 rfl (lv_at hl 2 rfl) ?_
            refine lv_iadd hx hb dX6_plans_130 ?_
            obtain ⟨r6, hr6, hf⟩ := ob_bind hf
            have hFc := va_free (wc := ce_X6 G.2.1 a0 (S0.1, S0.2.1, S0.2.2.1, S0.2.2.2.1, S0.2.2.2.2.1, S0.2.2.2.2.2.1, S0.2.2.2.2.2.2.1, S0.2.2.2.2.2.2.2.1, S0.2.2.2.2.2.2.2.2.1, (upd S0.2.2.2.2.2.2.2.2.2.1 (v1.toNatClampNeg) v5), S0.2.2.2.2.2.2.2.2.2.2.1, S0.2.2.2.2.2.2.2.2.2.2.2.1, S0.2.2.2.2.2.2.2.2.2.2.2.2.1, S0.2.2.2.2.2.2.2.2.2.2.2.2.2)) hD hS hA [0, 1, 2, 3, 4, 5, 6, 7, 8, 9] rfl
            refine zc_ro (va_runV (As := [.int v5, .int ((S0.2.1 1) + v1)]) (rest := [.int v4, .int (v3 - w0), .int v2, .int (v1 + 1), .ref a0.1]) ⟨hx, hb, hml, hown, hts⟩ (c_X6_passes l G a0 H.size (S0.1, S0.2.1, S0.2.2.1, S0.2.2.2.1, S0.2.2.2.2.1, S0.2.2.2.2.2.1, S0.2.2.2.2.2.2.1, S0.2.2.2.2.2.2.2.1, S0.2.2.2.2.2.2.2.2.1, (upd S0.2.2.2.2.2.2.2.2.2.1 (v1.toNatClampNeg) v5), S0.2.2.2.2.2.2.2.2.2.2.1, S0.2.2.2.2.2.2.2.2.2.2.2.1, S0.2.2.2.2.2.2.2.2.2.2.2.2.1, S0.2.2.2.2.2.2.2.2.2.2.2.2.2) v5 ((S0.2.1 1) + v1) _ hr6) (cwV 2 hts gX6_plans_X6_passes rfl rfl rfl (by decide +kernel) ⟨Nat.le_trans (Nat.le_of_ble_eq_true rfl : _ ≤ 10) (Nat.le_add_left _ _), Nat.le_trans (Nat.le_of_ble_eq_true rfl : _ ≤ 400) (Nat.le_add_left _ _)⟩) ⟨PcM.blind, va_recv hK hP (ci := 6) (q0 := 0) rfl rfl, PcM.ok hP hD hK hE hS hFc⟩ rfl rfl hl.1 rfl (lv_room (Nat.le_of_ble_eq_true rfl)) dX6_plans_131 ⟨Nat.le_refl _, Nat.le_refl _⟩) hP hD hS hA [0, 1, 2, 3, 4, 5, 6, 7, 8, 9] rfl (fun H locs hP hS => ?_)
            refine lv_ior hx hb dX6_plans_134 ?_
            obtain ⟨r7, hr7, hf⟩ := ob_bind hf
            have hFc := va_free (wc := ce_X6 G.2.1 a0 (S0.1, S0.2.1, S0.2.2.1, S0.2.2.2.1, S0.2.2.2.2.1, S0.2.2.2.2.2.1, S0.2.2.2.2.2.2.1, S0.2.2.2.2.2.2.2.1, S0.2.2.2.2.2.2.2.2.1, (upd S0.2.2.2.2.2.2.2.2.2.1 (v1.toNatClampNeg) v5), S0.2.2.2.2.2.2.2.2.2.2.1, S0.2.2.2.2.2.2.2.2.2.2.2.1, S0.2.2.2.2.2.2.2.2.2.2.2.2.1, S0.2.2.2.2.2.2.2.2.2.2.2.2.2)) hD hS hA [0, 1, 2, 3, 4, 5, 6, 7, 8, 9] rfl
            refine zc_wv (cf := (fun u => ce_X6 G.2.1 a0 u)) (ws' := ce_X6 G.2.1 a0 r7) (va_runV (As := [.int (v1 + 1), .int v2, .int (v3 - w0), .int (v4 ||| r6)]) (rest := []) ⟨hx, hb, hml, hown, hts⟩ (ihr l G a0 H.size (S0.1, S0.2.1, S0.2.2.1, S0.2.2.2.1, S0.2.2.2.2.1, S0.2.2.2.2.2.1, S0.2.2.2.2.2.2.1, S0.2.2.2.2.2.2.2.1, S0.2.2.2.2.2.2.2.2.1, (upd S0.2.2.2.2.2.2.2.2.2.1 (v1.toNatClampNeg) v5), S0.2.2.2.2.2.2.2.2.2.2.1, S0.2.2.2.2.2.2.2.2.2.2.2.1, S0.2.2.2.2.2.2.2.2.2.2.2.2.1, S0.2.2.2.2.2.2.2.2.2.2.2.2.2) (v1 + 1) v2 (v3 - w0) (v4 ||| r6) _ hr7) (cwV 4 hts gX6_plans_X6_plans rfl rfl rfl (by decide +kernel) ⟨by show fu * 1 + 10 + 1 ≤ (fu + 1) * 1 + 10; omega, by show 8 + (7 + 11) + (fu * 40 + 400) ≤ (fu + 1) * 40 + 400; omega⟩) ⟨PcM.blind, va_recv hK hP (ci := 6) (q0 := 0) rfl rfl, PcM.ok hP hD hK hE hS hFc⟩ rfl rfl hl.1 rfl (lv_room (Nat.le_of_ble_eq_true rfl)) dX6_plans_135 ⟨Nat.le_refl _, Nat.le_refl _⟩) hP hD hS hA [0, 1, 2, 3, 4, 5, 6, 7, 8, 9] [] [0, 1, 2, 3, 4, 5, 6, 7, 8, 9] rfl rfl (by decide) (by decide) (by decide) rfl (fun H locs hP hD hS => ?_)
            exact blk138 _ _ _ _ _ _ hf _ _ hP hD hS _ (lv_sub hl [1, 2, 3, 4, 5, 6] rfl)
          · replace hf := ob_neg c4 hf
            refine lv_goto (tgt := 138) hx hb dX6_plans_98 (by decide) ?_
            exact blk138 _ _ _ _ _ _ hf _ _ hP hD hS _ (lv_sub hl [1, 2, 3, 4, 5, 6] rfl)
        refine lv_iload hx hb dX6_plans_62 (lv_at hl 5 rfl) ?_
        refine lv_iconst (v := 5) hx hb dX6_plans_64 (by decide) ?_
        refine lv_icmp_ge (tgt := 144) hx hb dX6_plans_65 (by decide) (fun c8 => ?_) (fun c8 => ?_)
        · replace hf := ob_pos c8 hf
          exact fin _ _ _ _ _ hf hP hD hS dX6_plans_144
        · replace hf := ob_neg c8 hf
          refine lv_iload_n hx hb dX6_plans_68 rfl (lv_at hl 1 rfl) ?_
          refine lv_if_ne (tgt := 76) hx hb dX6_plans_69 (by decide) (fun c9 => ?_) (fun c9 => ?_)
          · replace hf := ob_neg c9 hf
            refine lv_iload hx hb dX6_plans_76 (lv_at hl 5 rfl) ?_
            refine lv_aload_n hx hb dX6_plans_78 rfl (lv_at hl 0 rfl) ?_
            refine va_get (D := G.1) (ci := 6) (v := .ref a0.2.2.2.2.2.2.2.1) (C := RX6) (T := TX6) (N := 14) hx hb hts hinX6 hown hK hP 0 rfl rfl 9 (by decide) lk1 (fun _ h9 => h9) rfl dX6_plans_79 ?_
            refine lv_iload_n hx hb dX6_plans_82 rfl (lv_at hl 1 rfl) ?_
            refine lv_iconst (v := 1) hx hb dX6_plans_83 (by decide) ?_
            refine lv_isub hx hb dX6_plans_84 ?_
            obtain ⟨hg10, hf⟩ := ob_guard hf
            refine va_iald hx hb hK hP 7 0 rfl rfl hg10 dX6_plans_85 ?_
            refine lv_isub hx hb dX6_plans_86 ?_
            obtain ⟨r11, hr11, hf⟩ := ob_bind hf
            have hPc : va_P G.1 vwCl (([] : va_W)) H := hP.sub [] rfl
            have hDc : va_D A (([] : va_W)) := hD.sub [] (by decide) rfl
            have hFc := va_free (wc := ([] : va_W)) hD hS hA [] rfl
            refine zc_ro (va_runS (As := [.int (v5 - (S0.2.2.2.2.2.2.2.2.2.1 (v1 - 1).toNatClampNeg))]) (rest := []) ⟨hx, hb, hml, hown, hts⟩ (c_X6_amount l G H.size (v5 - (S0.2.2.2.2.2.2.2.2.2.1 (v1 - 1).toNatClampNeg)) _ hr11) (va_cwS 1 hts gX6_plans_X6_amount rfl rfl rfl (by decide +kernel) ⟨Nat.le_trans (Nat.le_of_ble_eq_true rfl : _ ≤ 10) (Nat.le_add_left _ _), Nat.le_trans (Nat.le_of_ble_eq_true rfl : _ ≤ 400) (Nat.le_add_left _ _)⟩) ⟨PcM.blind, PcM.ok hPc hDc hK hE hS hFc⟩ rfl rfl hl.1 rfl (lv_room (Nat.le_of_ble_eq_true rfl)) dX6_plans_87 ⟨Nat.le_refl _, Nat.le_refl _⟩) hP hD hS hA [] rfl (fun H locs hP hS => ?_)
            exact blk90 _ _ _ _ _ _ _ hf _ _ hP hD hS _ (lv_sub hl [0, 1, 2, 3, 4, 5] rfl)
          · replace hf := ob_pos c9 hf
            refine lv_iconst (v := 0) hx hb dX6_plans_72 (by decide) ?_
            refine lv_goto (tgt := 90) hx hb dX6_plans_73 (by decide) ?_
            exact blk90 _ _ _ _ _ _ _ hf _ _ hP hD hS _ (lv_sub hl [0, 1, 2, 3, 4, 5] rfl)
    have go : ∀ (H : Heap) (locs : List Loc), va_P G.1 vwCl (ce_X6 G.2.1 a0 S0) H → va_D A (ce_X6 G.2.1 a0 S0) → va_S A s.heap H locs → ∀ (ls : Array Slot), lv_has ls 7 [(0, .ref a0.1), (1, .int p1), (2, .int p2), (3, .int p3), (4, .int p4)] → W p l e (headSpec wsX6_plans (rm_X6_plans (fu + 1))).room s m args below meth c H locs 0 0 Q (F0 m 0 ls []) := by
      intro H locs hP hD hS ls hl
      refine lv_iload_n hx hb dX6_plans_0 rfl (lv_at hl 1 rfl) ?_
      refine lv_iload_n hx hb dX6_plans_1 rfl (lv_at hl 2 rfl) ?_
      refine lv_icmp_ne (tgt := 59) hx hb dX6_plans_2 (by decide) (fun c12 => ?_) (fun c12 => ?_)
      · replace hf := ob_neg c12 hf
        refine lv_iconst (v := 0) hx hb dX6_plans_59 (by decide) ?_
        refine lv_istore (lv' := [(5, .int 0), (0, .ref a0.1), (1, .int p1), (2, .int p2), (3, .int p3), (4, .int p4)]) hx hb dX6_plans_60 hl (by decide) rfl (fun ls hl => ?_)
        exact blk62 4096 _ _ _ _ _ _ hf _ _ hP hD hS _ (lv_sub hl [1, 2, 3, 4, 5, 0] rfl)
      · replace hf := ob_pos c12 hf
        refine lv_aload_n hx hb dX6_plans_5 rfl (lv_at hl 0 rfl) ?_
        refine lv_iload hx hb dX6_plans_6 (lv_at hl 4 rfl) ?_
        obtain ⟨r13, hr13, hf⟩ := ob_bind hf
        have hFc := va_free (wc := ce_X6 G.2.1 a0 S0) hD hS hA [0, 1, 2, 3, 4, 5, 6, 7, 8, 9] rfl
        refine zc_ro (va_runV (As := [.int p4]) (rest := []) ⟨hx, hb, hml, hown, hts⟩ (c_X6_newOf l G a0 H.size S0 p4 _ hr13) (cwV 1 hts gX6_plans_X6_newOf rfl rfl rfl (by decide +kernel) ⟨Nat.le_trans (Nat.le_of_ble_eq_true rfl : _ ≤ 10) (Nat.le_add_left _ _), Nat.le_trans (Nat.le_of_ble_eq_true rfl : _ ≤ 400) (Nat.le_add_left _ _)⟩) ⟨PcM.blind, va_recv hK hP (ci := 6) (q0 := 0) rfl rfl, PcM.ok hP hD hK hE hS hFc⟩ rfl rfl hl.1 rfl (lv_room (Nat.le_of_ble_eq_true rfl)) dX6_plans_8 ⟨Nat.le_refl _, Nat.le_refl _⟩) hP hD hS hA [0, 1, 2, 3, 4, 5, 6, 7, 8, 9] rfl (fun H locs hP hS => ?_)
        refine lv_istore (lv' := [(5, .int r13), (0, .ref a0.1), (1, .int p1), (2, .int p2), (3, .int p3), (4, .int p4)]) hx hb dX6_plans_11 hl (by decide) rfl (fun ls hl => ?_)
        refine lv_iload hx hb dX6_plans_13 (lv_at hl 0 rfl) ?_
        refine lv_aload_n hx hb dX6_plans_15 rfl (lv_at hl 1 rfl) ?_
        refine va_get (D := G.1) (ci := 6) (v := .int S0.2.2.2.2.2.2.2.2.2.2.2.1) (C := RX6) (T := TX6) (N := 14) hx hb hts hinX6 hown hK hP 0 rfl rfl 11 (by decide) lk3 (fun _ h9 => h9) rfl dX6_plans_16 ?_
        refine lv_icmp_gt (tgt := 23) hx hb dX6_plans_19 (by decide) (fun c14 => ?_) (fun c14 => ?_)
        · replace hf := ob_pos c14 hf
          refine lv_aload_n hx hb dX6_plans_23 rfl (lv_at hl 1 rfl) ?_
          refine lv_iload hx hb dX6_plans_24 (lv_at hl 0 rfl) ?_
          refine va_put (D := G.1) (ci := 6) (v := .int r13) (ty := .int) (C := RX6) (T := TX6) (N := 14) hx hb hts hinX6 tyX6 tyX6_ok nmX6 hown hK hP hD hS 0 rfl rfl 11 (by decide) lk3 (fun _ h9 => h9) rfl (by decide +kernel) rfl rfl (Nat.le_of_ble_eq_true rfl) dX6_plans_26 (fun H locs hP hD hS => ?_)
          have hP : va_P G.1 vwCl (ce_X6 G.2.1 a0 (S0.1, S0.2.1, S0.2.2.1, S0.2.2.2.1, S0.2.2.2.2.1, S0.2.2.2.2.2.1, S0.2.2.2.2.2.2.1, S0.2.2.2.2.2.2.2.1, S0.2.2.2.2.2.2.2.2.1, S0.2.2.2.2.2.2.2.2.2.1, S0.2.2.2.2.2.2.2.2.2.2.1, r13, S0.2.2.2.2.2.2.2.2.2.2.2.2.1, S0.2.2.2.2.2.2.2.2.2.2.2.2.2)) H := hP
          have hD : va_D A (ce_X6 G.2.1 a0 (S0.1, S0.2.1, S0.2.2.1, S0.2.2.2.1, S0.2.2.2.2.1, S0.2.2.2.2.2.1, S0.2.2.2.2.2.2.1, S0.2.2.2.2.2.2.2.1, S0.2.2.2.2.2.2.2.2.1, S0.2.2.2.2.2.2.2.2.2.1, S0.2.2.2.2.2.2.2.2.2.2.1, r13, S0.2.2.2.2.2.2.2.2.2.2.2.2.1, S0.2.2.2.2.2.2.2.2.2.2.2.2.2)) := hD
          refine lv_iconst (v := 0) hx hb dX6_plans_29 (by decide) ?_
          refine lv_istore (lv' := [(6, .int 0), (5, .int r13), (0, .ref a0.1), (1, .int p1), (2, .int p2), (3, .int p3), (4, .int p4)]) hx hb dX6_plans_30 hl (by decide) rfl (fun ls hl => ?_)
          exact blk32 4096 _ _ _ hf _ _ hP hD hS _ (lv_sub hl [2, 4, 0] rfl)
        · replace hf := ob_neg c14 hf
          exact fin _ _ _ _ _ hf hP hD hS dX6_plans_22
    exact go _ _ hP hD hS _ hl
abbrev rm_X6_findsPlan : Room := { frames := 19, cells := 0, slots := 0, locals := 746 }
set_option maxHeartbeats 4000000 in
set_option maxRecDepth 100000 in
theorem c_X6_findsPlan (l : Launch) (G : zG) (a0 : AT_X6) (sz : Nat) (S0 : ST_X6) (p1 : Int32) (p2 : Int32) (out : ST_X6) (hf : f_X6_findsPlan S0 p1 p2 = some out) : Met l yX6_findsPlan wsX6_findsPlan rm_X6_findsPlan (PcM G (ce_X6 G.2.1 a0 S0) [.ref a0.1, .int p1, .int p2] sz) (QWv G (fun u => ce_X6 G.2.1 a0 u) out (va_A (ce_X6 G.2.1 a0 S0) sz)) 0 0 (va_A (ce_X6 G.2.1 a0 S0) sz) := by
  rw [f_X6_findsPlan] at hf
  refine Met.ofW (cc := cX6_findsPlan) (maxL := 3) (ret := none) (by decide) rfl ?_
  intro p e s m args below meth c s₁ B hml hv
  obtain ⟨hargs, hsz, hP, hK, hD0, hE⟩ := hv
  have hx := B.exec
  have hb := B.bytes
  have hr := B.returns
  have hts := atoms_spec (ws := wsX6_findsPlan) B.pre
  have hown : s.vm.findClass RX6 = some m.cls := findClass_of_methodNamed B.named
  have hlocks := B.notSynchronized
  subst hsz
  have hD := hD0.self (sz := s.heap.size)
  generalize hAe : va_A (ce_X6 G.2.1 a0 S0) s.heap.size = A at hD hE ⊢
  have hA : ∀ q : Nat, s.heap.size ≤ q → A q := fun q h => by rw [← hAe]; exact Or.inr h
  have hS : va_S A s.heap s.heap [] := va_S.rf
  have hl := lv_entry ([.ref a0.1, .int p1, .int p2]) (n := 3) (Nat.le_of_ble_eq_true rfl)
  have hent : entryFrame m args 3 = F0 m 0 ((lg_sl ([.ref a0.1, .int p1, .int p2]) ++ List.replicate (3 - (lg_sl ([.ref a0.1, .int p1, .int p2])).length) Slot.unset).toArray) [] := by rw [hargs, lg_entry_eq]
  rw [hent]
  clear hent
  generalize (lg_sl ([.ref a0.1, .int p1, .int p2]) ++ List.replicate (3 - (lg_sl ([.ref a0.1, .int p1, .int p2])).length) Slot.unset).toArray = ls at hl ⊢
  have hl : lv_has ls 3 [(0, .ref a0.1), (1, .int p1), (2, .int p2)] := hl
  have lk0 := hts (Cond.fieldLink RX6 128 "EnginesOnListModel" "bestNew" "I") (List.mem_of_getElem? (i := 1) rfl)
  have hinX6 : ∀ w ∈ wsX60, w ∈ wsX6_findsPlan := by decide +kernel
  have fin : ∀ (pc : Nat) (u : ST_X6) (H : Heap) (locs : List Loc) (ls : Array Slot), some u = some out → va_P G.1 vwCl (ce_X6 G.2.1 a0 u) H → va_D A (ce_X6 G.2.1 a0 u) → va_S A s.heap H locs → decode cX6_findsPlan pc = .ok (.return_, 1) → W p l e (headSpec wsX6_findsPlan rm_X6_findsPlan).room s m args below meth c H locs 0 0 (MQ below (QWv G (fun u => ce_X6 G.2.1 a0 u) out A) args s 0 0 A) (F0 m pc ls []) := fun pc u H locs ls ho hP hD hS hd => W.vret hx hb hr (fun t ht hW => ⟨⟨u, rfl, Option.some.inj ho, by first | (rw [ht]; exact hP) | (dsimp only; rw [ht]; exact hP), hD⟩, hS.F ht⟩) hS.2.2 hd
  generalize MQ below (QWv G (fun u => ce_X6 G.2.1 a0 u) out A) args s 0 0 A = Q at fin ⊢
  have go : ∀ (H : Heap) (locs : List Loc), va_P G.1 vwCl (ce_X6 G.2.1 a0 S0) H → va_D A (ce_X6 G.2.1 a0 S0) → va_S A s.heap H locs → ∀ (ls : Array Slot), lv_has ls 3 [(0, .ref a0.1), (1, .int p1), (2, .int p2)] → W p l e (headSpec wsX6_findsPlan rm_X6_findsPlan).room s m args below meth c H locs 0 0 Q (F0 m 0 ls []) := by
    intro H locs hP hD hS ls hl
    refine lv_aload_n hx hb dX6_findsPlan_0 rfl (lv_at hl 0 rfl) ?_
    refine lv_iconst (v := (-1)) hx hb dX6_findsPlan_1 (by decide) ?_
    refine va_put (D := G.1) (ci := 6) (v := .int (-1)) (ty := .int) (C := RX6) (T := TX6) (N := 14) hx hb hts hinX6 tyX6 tyX6_ok nmX6 hown hK hP hD hS 0 rfl rfl 11 (by decide) lk0 (fun _ h9 => h9) rfl (by decide +kernel) rfl rfl (Nat.le_of_ble_eq_true rfl) dX6_findsPlan_2 (fun H locs hP hD hS => ?_)
    have hP : va_P G.1 vwCl (ce_X6 G.2.1 a0 (S0.1, S0.2.1, S0.2.2.1, S0.2.2.2.1, S0.2.2.2.2.1, S0.2.2.2.2.2.1, S0.2.2.2.2.2.2.1, S0.2.2.2.2.2.2.2.1, S0.2.2.2.2.2.2.2.2.1, S0.2.2.2.2.2.2.2.2.2.1, S0.2.2.2.2.2.2.2.2.2.2.1, (-1), S0.2.2.2.2.2.2.2.2.2.2.2.2.1, S0.2.2.2.2.2.2.2.2.2.2.2.2.2)) H := hP
    have hD : va_D A (ce_X6 G.2.1 a0 (S0.1, S0.2.1, S0.2.2.1, S0.2.2.2.1, S0.2.2.2.2.1, S0.2.2.2.2.2.1, S0.2.2.2.2.2.2.1, S0.2.2.2.2.2.2.2.1, S0.2.2.2.2.2.2.2.2.1, S0.2.2.2.2.2.2.2.2.2.1, S0.2.2.2.2.2.2.2.2.2.2.1, (-1), S0.2.2.2.2.2.2.2.2.2.2.2.2.1, S0.2.2.2.2.2.2.2.2.2.2.2.2.2)) := hD
    refine lv_aload_n hx hb dX6_findsPlan_5 rfl (lv_at hl 0 rfl) ?_
    refine lv_iconst (v := 0) hx hb dX6_findsPlan_6 (by decide) ?_
    refine lv_iload_n hx hb dX6_findsPlan_7 rfl (lv_at hl 1 rfl) ?_
    refine lv_iload_n hx hb dX6_findsPlan_8 rfl (lv_at hl 2 rfl) ?_
    refine lv_iconst (v := 0) hx hb dX6_findsPlan_9 (by decide) ?_
    obtain ⟨r1, hr1, hf⟩ := ob_bind hf
    have hFc := va_free (wc := ce_X6 G.2.1 a0 (S0.1, S0.2.1, S0.2.2.1, S0.2.2.2.1, S0.2.2.2.2.1, S0.2.2.2.2.2.1, S0.2.2.2.2.2.2.1, S0.2.2.2.2.2.2.2.1, S0.2.2.2.2.2.2.2.2.1, S0.2.2.2.2.2.2.2.2.2.1, S0.2.2.2.2.2.2.2.2.2.2.1, (-1), S0.2.2.2.2.2.2.2.2.2.2.2.2.1, S0.2.2.2.2.2.2.2.2.2.2.2.2.2)) hD hS hA [0, 1, 2, 3, 4, 5, 6, 7, 8, 9] rfl
    refine zc_wv (cf := (fun u => ce_X6 G.2.1 a0 u)) (ws' := ce_X6 G.2.1 a0 r1) (va_runV (As := [.int 0, .int p1, .int p2, .int 0]) (rest := []) ⟨hx, hb, hml, hown, hts⟩ (c_X6_plans 8 l G a0 H.size (S0.1, S0.2.1, S0.2.2.1, S0.2.2.2.1, S0.2.2.2.2.1, S0.2.2.2.2.2.1, S0.2.2.2.2.2.2.1, S0.2.2.2.2.2.2.2.1, S0.2.2.2.2.2.2.2.2.1, S0.2.2.2.2.2.2.2.2.2.1, S0.2.2.2.2.2.2.2.2.2.2.1, (-1), S0.2.2.2.2.2.2.2.2.2.2.2.2.1, S0.2.2.2.2.2.2.2.2.2.2.2.2.2) 0 p1 p2 0 _ hr1) (cwV 4 hts gX6_findsPlan_X6_plans rfl rfl rfl (by decide +kernel) ⟨Nat.le_of_ble_eq_true rfl, Nat.le_of_ble_eq_true rfl⟩) ⟨PcM.blind, va_recv hK hP (ci := 6) (q0 := 0) rfl rfl, PcM.ok hP hD hK hE hS hFc⟩ rfl rfl hl.1 rfl (lv_room (Nat.le_of_ble_eq_true rfl)) dX6_findsPlan_10 ⟨Nat.le_refl _, Nat.le_refl _⟩) hP hD hS hA [0, 1, 2, 3, 4, 5, 6, 7, 8, 9] [] [0, 1, 2, 3, 4, 5, 6, 7, 8, 9] rfl rfl (by decide) (by decide) (by decide) rfl (fun H locs hP hD hS => ?_)
    exact fin _ _ _ _ _ hf hP hD hS dX6_findsPlan_13
  exact go _ _ hP hD hS _ hl
abbrev rm_X6_plan : Room := { frames := 20, cells := 0, slots := 0, locals := 768 }
set_option maxHeartbeats 4000000 in
set_option maxRecDepth 100000 in
theorem c_X6_plan (l : Launch) (G : zG) (a0 : AT_X6) (sz : Nat) (S0 : ST_X6) (p1 : Int32) (p2 : Int32) (p3 : Int32) (out : Int32 × ST_X6) (hf : f_X6_plan S0 p1 p2 p3 = some out) : Met l yX6_plan wsX6_plan rm_X6_plan (PcM G (ce_X6 G.2.1 a0 S0) [.ref a0.1, .int p1, .int p2, .int p3] sz) (QWr G (fun u => ce_X6 G.2.1 a0 u) out (va_A (ce_X6 G.2.1 a0 S0) sz)) 0 0 (va_A (ce_X6 G.2.1 a0 S0) sz) := by
  rw [f_X6_plan] at hf
  refine Met.ofW (cc := cX6_plan) (maxL := 5) (ret := (some .int)) (by decide) rfl ?_
  intro p e s m args below meth c s₁ B hml hv
  obtain ⟨hargs, hsz, hP, hK, hD0, hE⟩ := hv
  have hx := B.exec
  have hb := B.bytes
  have hr := B.returns
  have hts := atoms_spec (ws := wsX6_plan) B.pre
  have hown : s.vm.findClass RX6 = some m.cls := findClass_of_methodNamed B.named
  have hlocks := B.notSynchronized
  subst hsz
  have hD := hD0.self (sz := s.heap.size)
  generalize hAe : va_A (ce_X6 G.2.1 a0 S0) s.heap.size = A at hD hE ⊢
  have hA : ∀ q : Nat, s.heap.size ≤ q → A q := fun q h => by rw [← hAe]; exact Or.inr h
  have hS : va_S A s.heap s.heap [] := va_S.rf
  have hl := lv_entry ([.ref a0.1, .int p1, .int p2, .int p3]) (n := 5) (Nat.le_of_ble_eq_true rfl)
  have hent : entryFrame m args 5 = F0 m 0 ((lg_sl ([.ref a0.1, .int p1, .int p2, .int p3]) ++ List.replicate (5 - (lg_sl ([.ref a0.1, .int p1, .int p2, .int p3])).length) Slot.unset).toArray) [] := by rw [hargs, lg_entry_eq]
  rw [hent]
  clear hent
  generalize (lg_sl ([.ref a0.1, .int p1, .int p2, .int p3]) ++ List.replicate (5 - (lg_sl ([.ref a0.1, .int p1, .int p2, .int p3])).length) Slot.unset).toArray = ls at hl ⊢
  have hl : lv_has ls 5 [(0, .ref a0.1), (1, .int p1), (2, .int p2), (3, .int p3)] := hl
  have lk0 := hts (Cond.fieldLink RX6 31 "EnginesOnListModel" "bestPlan" "[I") (List.mem_of_getElem? (i := 2) rfl)
  have lk1 := hts (Cond.fieldLink RX6 128 "EnginesOnListModel" "bestNew" "I") (List.mem_of_getElem? (i := 1) rfl)
  have hinX6 : ∀ w ∈ wsX60, w ∈ wsX6_plan := by decide +kernel
  have fin : ∀ (pc : Nat) (v : Int32) (u : ST_X6) (H : Heap) (locs : List Loc) (ls : Array Slot), some (v, u) = some out → va_P G.1 vwCl (ce_X6 G.2.1 a0 u) H → va_D A (ce_X6 G.2.1 a0 u) → va_S A s.heap H locs → decode cX6_plan pc = .ok (.ireturn, 1) → W p l e (headSpec wsX6_plan rm_X6_plan).room s m args below meth c H locs 0 0 (MQ below (QWr G (fun u => ce_X6 G.2.1 a0 u) out A) args s 0 0 A) (F0 m pc ls [.int v]) := fun pc v u H locs ls ho hP hD hS hd => W.iret (v := v) hx hb hr (fun t ht hW => ⟨⟨v, u, rfl, ob_pair ho, by first | (rw [ht]; exact hP) | (dsimp only; rw [ht]; exact hP), hD⟩, hS.F ht⟩) hS.2.2 hd
  generalize MQ below (QWr G (fun u => ce_X6 G.2.1 a0 u) out A) args s 0 0 A = Q at fin ⊢
  have blk36 : ∀ (S0 : ST_X6) (v1 : Int32) (v2 : Int32) (v3 : Int32) (w0 : Int32), f_X6_plan_b36 S0 v1 v2 v3 w0 = some out → ∀ (H : Heap) (locs : List Loc), va_P G.1 vwCl (ce_X6 G.2.1 a0 S0) H → va_D A (ce_X6 G.2.1 a0 S0) → va_S A s.heap H locs → ∀ (ls : Array Slot), lv_has ls 5 [(0, .ref a0.1), (1, .int v1), (2, .int v2), (3, .int v3)] → W p l e (headSpec wsX6_plan rm_X6_plan).room s m args below meth c H locs 0 0 Q (F0 m 36 ls [.int w0]) := by
    intro S0 v1 v2 v3 w0 hf H locs hP hD hS ls hl
    rw [f_X6_plan_b36] at hf
    refine lv_istore (lv' := [(4, .int w0), (0, .ref a0.1), (1, .int v1), (2, .int v2), (3, .int v3)]) hx hb dX6_plan_36 hl (by decide) rfl (fun ls hl => ?_)
    refine lv_iload hx hb dX6_plan_38 (lv_at hl 0 rfl) ?_
    refine lv_if_eq (tgt := 50) hx hb dX6_plan_40 (by decide) (fun c1 => ?_) (fun c1 => ?_)
    · replace hf := ob_pos c1 hf
      refine lv_iload_n hx hb dX6_plan_50 rfl (lv_at hl 4 rfl) ?_
      refine lv_iload_n hx hb dX6_plan_51 rfl (lv_at hl 2 rfl) ?_
      refine lv_icmp_lt (tgt := 58) hx hb dX6_plan_52 (by decide) (fun c2 => ?_) (fun c2 => ?_)
      · replace hf := ob_pos c2 hf
        refine lv_aload_n hx hb dX6_plan_58 rfl (lv_at hl 1 rfl) ?_
        refine lv_iload_n hx hb dX6_plan_59 rfl (lv_at hl 2 rfl) ?_
        refine lv_iload_n hx hb dX6_plan_60 rfl (lv_at hl 3 rfl) ?_
        obtain ⟨r3, hr3, hf⟩ := ob_bind hf
        have hFc := va_free (wc := ce_X6 G.2.1 a0 S0) hD hS hA [0, 1, 2, 3, 4, 5, 6, 7, 8, 9] rfl
        refine zc_wv (cf := (fun u => ce_X6 G.2.1 a0 u)) (ws' := ce_X6 G.2.1 a0 r3) (va_runV (As := [.int v1, .int v2]) (rest := []) ⟨hx, hb, hml, hown, hts⟩ (c_X6_findsPlan l G a0 H.size S0 v1 v2 _ hr3) (cwV 2 hts gX6_plan_X6_findsPlan rfl rfl rfl (by decide +kernel) ⟨Nat.le_of_ble_eq_true rfl, Nat.le_of_ble_eq_true rfl⟩) ⟨PcM.blind, va_recv hK hP (ci := 6) (q0 := 0) rfl rfl, PcM.ok hP hD hK hE hS hFc⟩ rfl rfl hl.1 rfl (lv_room (Nat.le_of_ble_eq_true rfl)) dX6_plan_61 ⟨Nat.le_refl _, Nat.le_refl _⟩) hP hD hS hA [0, 1, 2, 3, 4, 5, 6, 7, 8, 9] [] [0, 1, 2, 3, 4, 5, 6, 7, 8, 9] rfl rfl (by decide) (by decide) (by decide) rfl (fun H locs hP hD hS => ?_)
        refine lv_iload_n hx hb dX6_plan_64 rfl (lv_at hl 4 rfl) ?_
        refine lv_if_ge (tgt := 75) hx hb dX6_plan_65 (by decide) (fun c4 => ?_) (fun c4 => ?_)
        · replace hf := ob_pos c4 hf
          refine lv_aload_n hx hb dX6_plan_75 rfl (lv_at hl 1 rfl) ?_
          refine va_get (D := G.1) (ci := 6) (v := .ref a0.2.2.2.2.2.2.2.2.1) (C := RX6) (T := TX6) (N := 14) hx hb hts hinX6 hown hK hP 0 rfl rfl 10 (by decide) lk0 (fun _ h9 => h9) rfl dX6_plan_76 ?_
          refine lv_iload_n hx hb dX6_plan_79 rfl (lv_at hl 4 rfl) ?_
          obtain ⟨hg5, hf⟩ := ob_guard hf
          refine va_iald hx hb hK hP 8 0 rfl rfl hg5 dX6_plan_80 ?_
          exact fin _ _ _ _ _ _ hf hP hD hS dX6_plan_81
        · replace hf := ob_neg c4 hf
          refine lv_aload_n hx hb dX6_plan_68 rfl (lv_at hl 1 rfl) ?_
          refine va_get (D := G.1) (ci := 6) (v := .int r3.2.2.2.2.2.2.2.2.2.2.2.1) (C := RX6) (T := TX6) (N := 14) hx hb hts hinX6 hown hK hP 0 rfl rfl 11 (by decide) lk1 (fun _ h9 => h9) rfl dX6_plan_69 ?_
          refine lv_goto (tgt := 81) hx hb dX6_plan_72 (by decide) ?_
          exact fin _ _ _ _ _ _ hf hP hD hS dX6_plan_81
      · replace hf := ob_neg c2 hf
        refine lv_bipush (v := (-9)) hx hb dX6_plan_55 (by decide) ?_
        exact fin _ _ _ _ _ _ hf hP hD hS dX6_plan_57
    · replace hf := ob_neg c1 hf
      refine lv_aload_n hx hb dX6_plan_43 rfl (lv_at hl 1 rfl) ?_
      refine lv_iload hx hb dX6_plan_44 (lv_at hl 0 rfl) ?_
      obtain ⟨r6, hr6, hf⟩ := ob_bind hf
      have hFc := va_free (wc := ce_X6 G.2.1 a0 S0) hD hS hA [0, 1, 2, 3, 4, 5, 6, 7, 8, 9] rfl
      refine zc_wr (cf := (fun u => ce_X6 G.2.1 a0 u)) (ws' := ce_X6 G.2.1 a0 r6.2) (va_runV (As := [.int w0]) (rest := []) ⟨hx, hb, hml, hown, hts⟩ (c_X6_refuse l G a0 H.size S0 w0 _ hr6) (cwV 1 hts gX6_plan_X6_refuse rfl rfl rfl (by decide +kernel) ⟨Nat.le_of_ble_eq_true rfl, Nat.le_of_ble_eq_true rfl⟩) ⟨PcM.blind, va_recv hK hP (ci := 6) (q0 := 0) rfl rfl, PcM.ok hP hD hK hE hS hFc⟩ rfl rfl hl.1 rfl (lv_room (Nat.le_of_ble_eq_true rfl)) dX6_plan_46 ⟨Nat.le_refl _, Nat.le_refl _⟩) hP hD hS hA [0, 1, 2, 3, 4, 5, 6, 7, 8, 9] [] [0, 1, 2, 3, 4, 5, 6, 7, 8, 9] rfl rfl (by decide) (by decide) (by decide) rfl (fun H locs hP hD hS => ?_)
      exact fin _ _ _ _ _ _ hf hP hD hS dX6_plan_49
  have blk14 : ∀ (S0 : ST_X6) (v1 : Int32) (v2 : Int32) (v3 : Int32), f_X6_plan_b14 S0 v1 v2 v3 = some out → ∀ (H : Heap) (locs : List Loc), va_P G.1 vwCl (ce_X6 G.2.1 a0 S0) H → va_D A (ce_X6 G.2.1 a0 S0) → va_S A s.heap H locs → ∀ (ls : Array Slot), lv_has ls 5 [(0, .ref a0.1), (1, .int v1), (2, .int v2), (3, .int v3)] → W p l e (headSpec wsX6_plan rm_X6_plan).room s m args below meth c H locs 0 0 Q (F0 m 14 ls []) := by
    intro S0 v1 v2 v3 hf H locs hP hD hS ls hl
    rw [f_X6_plan_b14] at hf
    refine lv_bipush (v := (-4)) hx hb dX6_plan_14 (by decide) ?_
    refine lv_goto (tgt := 36) hx hb dX6_plan_16 (by decide) ?_
    exact blk36 _ _ _ _ _ hf _ _ hP hD hS _ (lv_sub hl [0, 1, 2, 3] rfl)
  have blk30 : ∀ (S0 : ST_X6) (v1 : Int32) (v2 : Int32) (v3 : Int32), f_X6_plan_b30 S0 v1 v2 v3 = some out → ∀ (H : Heap) (locs : List Loc), va_P G.1 vwCl (ce_X6 G.2.1 a0 S0) H → va_D A (ce_X6 G.2.1 a0 S0) → va_S A s.heap H locs → ∀ (ls : Array Slot), lv_has ls 5 [(0, .ref a0.1), (1, .int v1), (2, .int v2), (3, .int v3)] → W p l e (headSpec wsX6_plan rm_X6_plan).room s m args below meth c H locs 0 0 Q (F0 m 30 ls []) := by
    intro S0 v1 v2 v3 hf H locs hP hD hS ls hl
    rw [f_X6_plan_b30] at hf
    refine lv_bipush (v := (-6)) hx hb dX6_plan_30 (by decide) ?_
    refine lv_goto (tgt := 36) hx hb dX6_plan_32 (by decide) ?_
    exact blk36 _ _ _ _ _ hf _ _ hP hD hS _ (lv_sub hl [0, 1, 2, 3] rfl)
  have go : ∀ (H : Heap) (locs : List Loc), va_P G.1 vwCl (ce_X6 G.2.1 a0 S0) H → va_D A (ce_X6 G.2.1 a0 S0) → va_S A s.heap H locs → ∀ (ls : Array Slot), lv_has ls 5 [(0, .ref a0.1), (1, .int p1), (2, .int p2), (3, .int p3)] → W p l e (headSpec wsX6_plan rm_X6_plan).room s m args below meth c H locs 0 0 Q (F0 m 0 ls []) := by
    intro H locs hP hD hS ls hl
    refine lv_iload_n hx hb dX6_plan_0 rfl (lv_at hl 1 rfl) ?_
    refine lv_iconst (v := 1) hx hb dX6_plan_1 (by decide) ?_
    refine lv_icmp_lt (tgt := 14) hx hb dX6_plan_2 (by decide) (fun c7 => ?_) (fun c7 => ?_)
    · replace hf := ob_pos c7 hf
      exact blk14 _ _ _ _ hf _ _ hP hD hS _ (lv_sub hl [0, 1, 2, 3] rfl)
    · replace hf := ob_neg c7 hf
      refine lv_iload_n hx hb dX6_plan_5 rfl (lv_at hl 2 rfl) ?_
      refine lv_if_lt (tgt := 14) hx hb dX6_plan_6 (by decide) (fun c8 => ?_) (fun c8 => ?_)
      · replace hf := ob_pos c8 hf
        exact blk14 _ _ _ _ hf _ _ hP hD hS _ (lv_sub hl [0, 1, 2, 3] rfl)
      · replace hf := ob_neg c8 hf
        refine lv_iload_n hx hb dX6_plan_9 rfl (lv_at hl 3 rfl) ?_
        refine lv_iconst (v := (-1)) hx hb dX6_plan_10 (by decide) ?_
        refine lv_icmp_ge (tgt := 19) hx hb dX6_plan_11 (by decide) (fun c9 => ?_) (fun c9 => ?_)
        · replace hf := ob_pos c9 hf
          refine lv_iload_n hx hb dX6_plan_19 rfl (lv_at hl 1 rfl) ?_
          refine lv_iconst (v := 5) hx hb dX6_plan_20 (by decide) ?_
          refine lv_icmp_gt (tgt := 30) hx hb dX6_plan_21 (by decide) (fun c10 => ?_) (fun c10 => ?_)
          · replace hf := ob_pos c10 hf
            exact blk30 _ _ _ _ hf _ _ hP hD hS _ (lv_sub hl [0, 1, 2, 3] rfl)
          · replace hf := ob_neg c10 hf
            refine lv_iload_n hx hb dX6_plan_24 rfl (lv_at hl 2 rfl) ?_
            refine lv_bipush (v := 20) hx hb dX6_plan_25 (by decide) ?_
            refine lv_icmp_le (tgt := 35) hx hb dX6_plan_27 (by decide) (fun c11 => ?_) (fun c11 => ?_)
            · replace hf := ob_pos c11 hf
              refine lv_iconst (v := 0) hx hb dX6_plan_35 (by decide) ?_
              exact blk36 _ _ _ _ _ hf _ _ hP hD hS _ (lv_sub hl [0, 1, 2, 3] rfl)
            · replace hf := ob_neg c11 hf
              exact blk30 _ _ _ _ hf _ _ hP hD hS _ (lv_sub hl [0, 1, 2, 3] rfl)
        · replace hf := ob_neg c9 hf
          exact blk14 _ _ _ _ hf _ _ hP hD hS _ (lv_sub hl [0, 1, 2, 3] rfl)
  exact go _ _ hP hD hS _ hl
abbrev rm_X6_await : Room := { frames := 4, cells := 0, slots := 0, locals := 92 }
set_option maxHeartbeats 4000000 in
set_option maxRecDepth 100000 in
theorem c_X6_await (l : Launch) (G : zG) (a0 : AT_X6) (sz : Nat) (S0 : ST_X6) (p1 : Int32) (p2 : Int32) (out : Int32 × ST_X6) (hf : f_X6_await S0 p1 p2 = some out) : Met l yX6_await wsX6_await rm_X6_await (PcM G (ce_X6 G.2.1 a0 S0) [.ref a0.1, .int p1, .int p2] sz) (QWr G (fun u => ce_X6 G.2.1 a0 u) out (va_A (ce_X6 G.2.1 a0 S0) sz)) 0 0 (va_A (ce_X6 G.2.1 a0 S0) sz) := by
  rw [f_X6_await] at hf
  refine Met.ofW (cc := cX6_await) (maxL := 4) (ret := (some .int)) (by decide) rfl ?_
  intro p e s m args below meth c s₁ B hml hv
  obtain ⟨hargs, hsz, hP, hK, hD0, hE⟩ := hv
  have hx := B.exec
  have hb := B.bytes
  have hr := B.returns
  have hts := atoms_spec (ws := wsX6_await) B.pre
  have hown : s.vm.findClass RX6 = some m.cls := findClass_of_methodNamed B.named
  have hlocks := B.notSynchronized
  subst hsz
  have hD := hD0.self (sz := s.heap.size)
  generalize hAe : va_A (ce_X6 G.2.1 a0 S0) s.heap.size = A at hD hE ⊢
  have hA : ∀ q : Nat, s.heap.size ≤ q → A q := fun q h => by rw [← hAe]; exact Or.inr h
  have hS : va_S A s.heap s.heap [] := va_S.rf
  have hl := lv_entry ([.ref a0.1, .int p1, .int p2]) (n := 4) (Nat.le_of_ble_eq_true rfl)
  have hent : entryFrame m args 4 = F0 m 0 ((lg_sl ([.ref a0.1, .int p1, .int p2]) ++ List.replicate (4 - (lg_sl ([.ref a0.1, .int p1, .int p2])).length) Slot.unset).toArray) [] := by rw [hargs, lg_entry_eq]
  rw [hent]
  clear hent
  generalize (lg_sl ([.ref a0.1, .int p1, .int p2]) ++ List.replicate (4 - (lg_sl ([.ref a0.1, .int p1, .int p2])).length) Slot.unset).toArray = ls at hl ⊢
  have hl : lv_has ls 4 [(0, .ref a0.1), (1, .int p1), (2, .int p2)] := hl
  have lk0 := hts (Cond.fieldLink RX6 13 "EnginesOnListModel" "s" "[I") (List.mem_of_getElem? (i := 1) rfl)
  have hinX6 : ∀ w ∈ wsX60, w ∈ wsX6_await := by decide +kernel
  have fin : ∀ (pc : Nat) (v : Int32) (u : ST_X6) (H : Heap) (locs : List Loc) (ls : Array Slot), some (v, u) = some out → va_P G.1 vwCl (ce_X6 G.2.1 a0 u) H → va_D A (ce_X6 G.2.1 a0 u) → va_S A s.heap H locs → decode cX6_await pc = .ok (.ireturn, 1) → W p l e (headSpec wsX6_await rm_X6_await).room s m args below meth c H locs 0 0 (MQ below (QWr G (fun u => ce_X6 G.2.1 a0 u) out A) args s 0 0 A) (F0 m pc ls [.int v]) := fun pc v u H locs ls ho hP hD hS hd => W.iret (v := v) hx hb hr (fun t ht hW => ⟨⟨v, u, rfl, ob_pair ho, by first | (rw [ht]; exact hP) | (dsimp only; rw [ht]; exact hP), hD⟩, hS.F ht⟩) hS.2.2 hd
  generalize MQ below (QWr G (fun u => ce_X6 G.2.1 a0 u) out A) args s 0 0 A = Q at fin ⊢
  have blk15 : ∀ (S0 : ST_X6), f_X6_await_b15 S0 = some out → ∀ (H : Heap) (locs : List Loc), va_P G.1 vwCl (ce_X6 G.2.1 a0 S0) H → va_D A (ce_X6 G.2.1 a0 S0) → va_S A s.heap H locs → ∀ (ls : Array Slot), lv_has ls 4 [(0, .ref a0.1)] → W p l e (headSpec wsX6_await rm_X6_await).room s m args below meth c H locs 0 0 Q (F0 m 15 ls []) := by
    intro S0 hf H locs hP hD hS ls hl
    rw [f_X6_await_b15] at hf
    refine lv_aload_n hx hb dX6_await_15 rfl (lv_at hl 0 rfl) ?_
    refine lv_iconst (v := (-1)) hx hb dX6_await_16 (by decide) ?_
    obtain ⟨r1, hr1, hf⟩ := ob_bind hf
    have hFc := va_free (wc := ce_X6 G.2.1 a0 S0) hD hS hA [0, 1, 2, 3, 4, 5, 6, 7, 8, 9] rfl
    refine zc_wr (cf := (fun u => ce_X6 G.2.1 a0 u)) (ws' := ce_X6 G.2.1 a0 r1.2) (va_runV (As := [.int (-1)]) (rest := []) ⟨hx, hb, hml, hown, hts⟩ (c_X6_refuse l G a0 H.size S0 (-1) _ hr1) (cwV 1 hts gX6_await_X6_refuse rfl rfl rfl (by decide +kernel) ⟨Nat.le_of_ble_eq_true rfl, Nat.le_of_ble_eq_true rfl⟩) ⟨PcM.blind, va_recv hK hP (ci := 6) (q0 := 0) rfl rfl, PcM.ok hP hD hK hE hS hFc⟩ rfl rfl hl.1 rfl (lv_room (Nat.le_of_ble_eq_true rfl)) dX6_await_17 ⟨Nat.le_refl _, Nat.le_refl _⟩) hP hD hS hA [0, 1, 2, 3, 4, 5, 6, 7, 8, 9] [] [0, 1, 2, 3, 4, 5, 6, 7, 8, 9] rfl rfl (by decide) (by decide) (by decide) rfl (fun H locs hP hD hS => ?_)
    exact fin _ _ _ _ _ _ hf hP hD hS dX6_await_20
  have blk23 : ∀ (fu23 : Nat), ∀ (S0 : ST_X6) (v1 : Int32) (v2 : Int32) (v3 : Int32), f_X6_await_b23 fu23 S0 v1 v2 v3 = some out → ∀ (H : Heap) (locs : List Loc), va_P G.1 vwCl (ce_X6 G.2.1 a0 S0) H → va_D A (ce_X6 G.2.1 a0 S0) → va_S A s.heap H locs → ∀ (ls : Array Slot), lv_has ls 4 [(0, .ref a0.1), (1, .int v1), (2, .int v2), (3, .int v3)] → W p l e (headSpec wsX6_await rm_X6_await).room s m args below meth c H locs 0 0 Q (F0 m 23 ls []) := by
    intro fu23
    induction fu23 with
    | zero => intro S0 v1 v2 v3 hf; exact ob_none hf
    | succ fu23 ih23 =>
      intro S0 v1 v2 v3 hf H locs hP hD hS ls hl
      rw [f_X6_await_b23] at hf
      refine lv_iload_n hx hb dX6_await_23 rfl (lv_at hl 3 rfl) ?_
      refine lv_bipush (v := 60) hx hb dX6_await_24 (by decide) ?_
      refine lv_icmp_gt (tgt := 54) hx hb dX6_await_26 (by decide) (fun c2 => ?_) (fun c2 => ?_)
      · replace hf := ob_pos c2 hf
        refine lv_bipush (v := (-9)) hx hb dX6_await_54 (by decide) ?_
        exact fin _ _ _ _ _ _ hf hP hD hS dX6_await_56
      · replace hf := ob_neg c2 hf
        refine lv_aload_n hx hb dX6_await_29 rfl (lv_at hl 0 rfl) ?_
        refine lv_iload_n hx hb dX6_await_30 rfl (lv_at hl 1 rfl) ?_
        refine lv_aload_n hx hb dX6_await_31 rfl (lv_at hl 0 rfl) ?_
        refine va_get (D := G.1) (ci := 6) (v := .ref a0.2.2.1) (C := RX6) (T := TX6) (N := 14) hx hb hts hinX6 hown hK hP 0 rfl rfl 1 (by decide) lk0 (fun _ h9 => h9) rfl dX6_await_32 ?_
        refine lv_iconst (v := 1) hx hb dX6_await_35 (by decide) ?_
        refine va_iald hx hb hK hP 2 0 rfl rfl (by decide : inB 1 130) dX6_await_36 ?_
        refine zl_top (y := S0.2.1 1) rfl ?_
        refine lv_iload_n hx hb dX6_await_37 rfl (lv_at hl 3 rfl) ?_
        refine lv_iadd hx hb dX6_await_38 ?_
        obtain ⟨r3, hr3, hf⟩ := ob_bind hf
        have hFc := va_free (wc := ce_X6 G.2.1 a0 S0) hD hS hA [0, 1, 2, 3, 4, 5, 6, 7, 8, 9] rfl
        refine zc_ro (va_runV (As := [.int v1, .int ((S0.2.1 1) + v3)]) (rest := []) ⟨hx, hb, hml, hown, hts⟩ (c_X6_isAt l G a0 H.size S0 v1 ((S0.2.1 1) + v3) _ hr3) (cwV 2 hts gX6_await_X6_isAt rfl rfl rfl (by decide +kernel) ⟨Nat.le_of_ble_eq_true rfl, Nat.le_of_ble_eq_true rfl⟩) ⟨PcM.blind, va_recv hK hP (ci := 6) (q0 := 0) rfl rfl, PcM.ok hP hD hK hE hS hFc⟩ rfl rfl hl.1 rfl (lv_room (Nat.le_of_ble_eq_true rfl)) dX6_await_39 ⟨Nat.le_refl _, Nat.le_refl _⟩) hP hD hS hA [0, 1, 2, 3, 4, 5, 6, 7, 8, 9] rfl (fun H locs hP hS => ?_)
        refine lv_iload_n hx hb dX6_await_42 rfl (lv_at hl 2 rfl) ?_
        refine lv_icmp_ne (tgt := 48) hx hb dX6_await_43 (by decide) (fun c4 => ?_) (fun c4 => ?_)
        · replace hf := ob_neg c4 hf
          refine lv_iinc (v := v3 + 1) (lv' := [(3, .int (v3 + 1)), (0, .ref a0.1), (1, .int v1), (2, .int v2)]) hx hb dX6_await_48 hl (k := 3) rfl rfl (by decide) rfl (fun ls hl => ?_)
          refine lv_goto (tgt := 23) hx hb dX6_await_51 (by decide) ?_
          exact ih23 _ _ _ _ hf _ _ hP hD hS _ (lv_sub hl [1, 2, 3, 0] rfl)
        · replace hf := ob_pos c4 hf
          refine lv_iload_n hx hb dX6_await_46 rfl (lv_at hl 3 rfl) ?_
          exact fin _ _ _ _ _ _ hf hP hD hS dX6_await_47
  have go : ∀ (H : Heap) (locs : List Loc), va_P G.1 vwCl (ce_X6 G.2.1 a0 S0) H → va_D A (ce_X6 G.2.1 a0 S0) → va_S A s.heap H locs → ∀ (ls : Array Slot), lv_has ls 4 [(0, .ref a0.1), (1, .int p1), (2, .int p2)] → W p l e (headSpec wsX6_await rm_X6_await).room s m args below meth c H locs 0 0 Q (F0 m 0 ls []) := by
    intro H locs hP hD hS ls hl
    refine lv_aload_n hx hb dX6_await_0 rfl (lv_at hl 0 rfl) ?_
    refine lv_iload_n hx hb dX6_await_1 rfl (lv_at hl 1 rfl) ?_
    obtain ⟨r5, hr5, hf⟩ := ob_bind hf
    have hFc := va_free (wc := ce_X6 G.2.1 a0 S0) hD hS hA [0, 1, 2, 3, 4, 5, 6, 7, 8, 9] rfl
    refine zc_ro (va_runV (As := [.int p1]) (rest := []) ⟨hx, hb, hml, hown, hts⟩ (c_X6_isEngine l G a0 H.size S0 p1 _ hr5) (cwV 1 hts gX6_await_X6_isEngine rfl rfl rfl (by decide +kernel) ⟨Nat.le_of_ble_eq_true rfl, Nat.le_of_ble_eq_true rfl⟩) ⟨PcM.blind, va_recv hK hP (ci := 6) (q0 := 0) rfl rfl, PcM.ok hP hD hK hE hS hFc⟩ rfl rfl hl.1 rfl (lv_room (Nat.le_of_ble_eq_true rfl)) dX6_await_2 ⟨Nat.le_refl _, Nat.le_refl _⟩) hP hD hS hA [0, 1, 2, 3, 4, 5, 6, 7, 8, 9] rfl (fun H locs hP hS => ?_)
    refine lv_if_eq (tgt := 15) hx hb dX6_await_5 (by decide) (fun c6 => ?_) (fun c6 => ?_)
    · replace hf := ob_pos c6 hf
      exact blk15 _ hf _ _ hP hD hS _ (lv_sub hl [0] rfl)
    · replace hf := ob_neg c6 hf
      refine lv_iload_n hx hb dX6_await_8 rfl (lv_at hl 2 rfl) ?_
      obtain ⟨r7, hr7, hf⟩ := ob_bind hf
      have hPc : va_P G.1 vwCl (([] : va_W)) H := hP.sub [] rfl
      have hDc : va_D A (([] : va_W)) := hD.sub [] (by decide) rfl
      have hFc := va_free (wc := ([] : va_W)) hD hS hA [] rfl
      refine zc_ro (va_runS (As := [.int p2]) (rest := []) ⟨hx, hb, hml, hown, hts⟩ (c_X6_isPlace l G H.size p2 _ hr7) (va_cwS 1 hts gX6_await_X6_isPlace rfl rfl rfl (by decide +kernel) ⟨Nat.le_of_ble_eq_true rfl, Nat.le_of_ble_eq_true rfl⟩) ⟨PcM.blind, PcM.ok hPc hDc hK hE hS hFc⟩ rfl rfl hl.1 rfl (lv_room (Nat.le_of_ble_eq_true rfl)) dX6_await_9 ⟨Nat.le_refl _, Nat.le_refl _⟩) hP hD hS hA [] rfl (fun H locs hP hS => ?_)
      refine lv_if_ne (tgt := 21) hx hb dX6_await_12 (by decide) (fun c8 => ?_) (fun c8 => ?_)
      · replace hf := ob_neg c8 hf
        refine lv_iconst (v := 0) hx hb dX6_await_21 (by decide) ?_
        refine lv_istore_n (lv' := [(3, .int 0), (0, .ref a0.1), (1, .int p1), (2, .int p2)]) hx hb dX6_await_22 rfl hl (by decide) rfl (fun ls hl => ?_)
        exact blk23 4096 _ _ _ _ hf _ _ hP hD hS _ (lv_sub hl [1, 2, 3, 0] rfl)
      · replace hf := ob_pos c8 hf
        exact blk15 _ hf _ _ hP hD hS _ (lv_sub hl [0] rfl)
  exact go _ _ hP hD hS _ hl
abbrev rm_X6_chase : Room := { frames := 4, cells := 0, slots := 0, locals := 92 }
set_option maxHeartbeats 4000000 in
set_option maxRecDepth 100000 in
theorem c_X6_chase (l : Launch) (G : zG) (a0 : AT_X6) (sz : Nat) (S0 : ST_X6) (p1 : Int32) (out : Int32 × ST_X6) (hf : f_X6_chase S0 p1 = some out) : Met l yX6_chase wsX6_chase rm_X6_chase (PcM G (ce_X6 G.2.1 a0 S0) [.ref a0.1, .int p1] sz) (QWr G (fun u => ce_X6 G.2.1 a0 u) out (va_A (ce_X6 G.2.1 a0 S0) sz)) 0 0 (va_A (ce_X6 G.2.1 a0 S0) sz) := by
  rw [f_X6_chase] at hf
  refine Met.ofW (cc := cX6_chase) (maxL := 3) (ret := (some .int)) (by decide) rfl ?_
  intro p e s m args below meth c s₁ B hml hv
  obtain ⟨hargs, hsz, hP, hK, hD0, hE⟩ := hv
  have hx := B.exec
  have hb := B.bytes
  have hr := B.returns
  have hts := atoms_spec (ws := wsX6_chase) B.pre
  have hown : s.vm.findClass RX6 = some m.cls := findClass_of_methodNamed B.named
  have hlocks := B.notSynchronized
  subst hsz
  have hD := hD0.self (sz := s.heap.size)
  generalize hAe : va_A (ce_X6 G.2.1 a0 S0) s.heap.size = A at hD hE ⊢
  have hA : ∀ q : Nat, s.heap.size ≤ q → A q := fun q h => by rw [← hAe]; exact Or.inr h
  have hS : va_S A s.heap s.heap [] := va_S.rf
  have hl := lv_entry ([.ref a0.1, .int p1]) (n := 3) (Nat.le_of_ble_eq_true rfl)
  have hent : entryFrame m args 3 = F0 m 0 ((lg_sl ([.ref a0.1, .int p1]) ++ List.replicate (3 - (lg_sl ([.ref a0.1, .int p1])).length) Slot.unset).toArray) [] := by rw [hargs, lg_entry_eq]
  rw [hent]
  clear hent
  generalize (lg_sl ([.ref a0.1, .int p1]) ++ List.replicate (3 - (lg_sl ([.ref a0.1, .int p1])).length) Slot.unset).toArray = ls at hl ⊢
  have hl : lv_has ls 3 [(0, .ref a0.1), (1, .int p1)] := hl
  have lk0 := hts (Cond.fieldLink RX6 13 "EnginesOnListModel" "s" "[I") (List.mem_of_getElem? (i := 1) rfl)
  have hinX6 : ∀ w ∈ wsX60, w ∈ wsX6_chase := by decide +kernel
  have fin : ∀ (pc : Nat) (v : Int32) (u : ST_X6) (H : Heap) (locs : List Loc) (ls : Array Slot), some (v, u) = some out → va_P G.1 vwCl (ce_X6 G.2.1 a0 u) H → va_D A (ce_X6 G.2.1 a0 u) → va_S A s.heap H locs → decode cX6_chase pc = .ok (.ireturn, 1) → W p l e (headSpec wsX6_chase rm_X6_chase).room s m args below meth c H locs 0 0 (MQ below (QWr G (fun u => ce_X6 G.2.1 a0 u) out A) args s 0 0 A) (F0 m pc ls [.int v]) := fun pc v u H locs ls ho hP hD hS hd => W.iret (v := v) hx hb hr (fun t ht hW => ⟨⟨v, u, rfl, ob_pair ho, by first | (rw [ht]; exact hP) | (dsimp only; rw [ht]; exact hP), hD⟩, hS.F ht⟩) hS.2.2 hd
  generalize MQ below (QWr G (fun u => ce_X6 G.2.1 a0 u) out A) args s 0 0 A = Q at fin ⊢
  have blk16 : ∀ (fu16 : Nat), ∀ (S0 : ST_X6) (v1 : Int32) (v2 : Int32), f_X6_chase_b16 fu16 S0 v1 v2 = some out → ∀ (H : Heap) (locs : List Loc), va_P G.1 vwCl (ce_X6 G.2.1 a0 S0) H → va_D A (ce_X6 G.2.1 a0 S0) → va_S A s.heap H locs → ∀ (ls : Array Slot), lv_has ls 3 [(0, .ref a0.1), (1, .int v1), (2, .int v2)] → W p l e (headSpec wsX6_chase rm_X6_chase).room s m args below meth c H locs 0 0 Q (F0 m 16 ls []) := by
    intro fu16
    induction fu16 with
    | zero => intro S0 v1 v2 hf; exact ob_none hf
    | succ fu16 ih16 =>
      intro S0 v1 v2 hf H locs hP hD hS ls hl
      rw [f_X6_chase_b16] at hf
      refine lv_iload_n hx hb dX6_chase_16 rfl (lv_at hl 2 rfl) ?_
      refine lv_bipush (v := 60) hx hb dX6_chase_17 (by decide) ?_
      refine lv_icmp_gt (tgt := 48) hx hb dX6_chase_19 (by decide) (fun c1 => ?_) (fun c1 => ?_)
      · replace hf := ob_pos c1 hf
        refine lv_bipush (v := (-9)) hx hb dX6_chase_48 (by decide) ?_
        exact fin _ _ _ _ _ _ hf hP hD hS dX6_chase_50
      · replace hf := ob_neg c1 hf
        refine lv_aload_n hx hb dX6_chase_22 rfl (lv_at hl 0 rfl) ?_
        refine lv_iload_n hx hb dX6_chase_23 rfl (lv_at hl 1 rfl) ?_
        refine lv_aload_n hx hb dX6_chase_24 rfl (lv_at hl 0 rfl) ?_
        refine va_get (D := G.1) (ci := 6) (v := .ref a0.2.2.1) (C := RX6) (T := TX6) (N := 14) hx hb hts hinX6 hown hK hP 0 rfl rfl 1 (by decide) lk0 (fun _ h9 => h9) rfl dX6_chase_25 ?_
        refine lv_iconst (v := 1) hx hb dX6_chase_28 (by decide) ?_
        refine va_iald hx hb hK hP 2 0 rfl rfl (by decide : inB 1 130) dX6_chase_29 ?_
        refine zl_top (y := S0.2.1 1) rfl ?_
        refine lv_iload_n hx hb dX6_chase_30 rfl (lv_at hl 2 rfl) ?_
        refine lv_iadd hx hb dX6_chase_31 ?_
        obtain ⟨r2, hr2, hf⟩ := ob_bind hf
        have hFc := va_free (wc := ce_X6 G.2.1 a0 S0) hD hS hA [0, 1, 2, 3, 4, 5, 6, 7, 8, 9] rfl
        refine zc_ro (va_runV (As := [.int v1, .int ((S0.2.1 1) + v2)]) (rest := []) ⟨hx, hb, hml, hown, hts⟩ (c_X6_isAt l G a0 H.size S0 v1 ((S0.2.1 1) + v2) _ hr2) (cwV 2 hts gX6_chase_X6_isAt rfl rfl rfl (by decide +kernel) ⟨Nat.le_of_ble_eq_true rfl, Nat.le_of_ble_eq_true rfl⟩) ⟨PcM.blind, va_recv hK hP (ci := 6) (q0 := 0) rfl rfl, PcM.ok hP hD hK hE hS hFc⟩ rfl rfl hl.1 rfl (lv_room (Nat.le_of_ble_eq_true rfl)) dX6_chase_32 ⟨Nat.le_refl _, Nat.le_refl _⟩) hP hD hS hA [0, 1, 2, 3, 4, 5, 6, 7, 8, 9] rfl (fun H locs hP hS => ?_)
        refine lv_bipush (v := 9) hx hb dX6_chase_35 (by decide) ?_
        refine lv_icmp_eq (tgt := 42) hx hb dX6_chase_37 (by decide) (fun c3 => ?_) (fun c3 => ?_)
        · replace hf := ob_pos c3 hf
          refine lv_iinc (v := v2 + 1) (lv' := [(2, .int (v2 + 1)), (0, .ref a0.1), (1, .int v1)]) hx hb dX6_chase_42 hl (k := 2) rfl rfl (by decide) rfl (fun ls hl => ?_)
          refine lv_goto (tgt := 16) hx hb dX6_chase_45 (by decide) ?_
          exact ih16 _ _ _ hf _ _ hP hD hS _ (lv_sub hl [1, 2, 0] rfl)
        · replace hf := ob_neg c3 hf
          refine lv_iload_n hx hb dX6_chase_40 rfl (lv_at hl 2 rfl) ?_
          exact fin _ _ _ _ _ _ hf hP hD hS dX6_chase_41
  have go : ∀ (H : Heap) (locs : List Loc), va_P G.1 vwCl (ce_X6 G.2.1 a0 S0) H → va_D A (ce_X6 G.2.1 a0 S0) → va_S A s.heap H locs → ∀ (ls : Array Slot), lv_has ls 3 [(0, .ref a0.1), (1, .int p1)] → W p l e (headSpec wsX6_chase rm_X6_chase).room s m args below meth c H locs 0 0 Q (F0 m 0 ls []) := by
    intro H locs hP hD hS ls hl
    refine lv_aload_n hx hb dX6_chase_0 rfl (lv_at hl 0 rfl) ?_
    refine lv_iload_n hx hb dX6_chase_1 rfl (lv_at hl 1 rfl) ?_
    obtain ⟨r4, hr4, hf⟩ := ob_bind hf
    have hFc := va_free (wc := ce_X6 G.2.1 a0 S0) hD hS hA [0, 1, 2, 3, 4, 5, 6, 7, 8, 9] rfl
    refine zc_ro (va_runV (As := [.int p1]) (rest := []) ⟨hx, hb, hml, hown, hts⟩ (c_X6_isEngine l G a0 H.size S0 p1 _ hr4) (cwV 1 hts gX6_chase_X6_isEngine rfl rfl rfl (by decide +kernel) ⟨Nat.le_of_ble_eq_true rfl, Nat.le_of_ble_eq_true rfl⟩) ⟨PcM.blind, va_recv hK hP (ci := 6) (q0 := 0) rfl rfl, PcM.ok hP hD hK hE hS hFc⟩ rfl rfl hl.1 rfl (lv_room (Nat.le_of_ble_eq_true rfl)) dX6_chase_2 ⟨Nat.le_refl _, Nat.le_refl _⟩) hP hD hS hA [0, 1, 2, 3, 4, 5, 6, 7, 8, 9] rfl (fun H locs hP hS => ?_)
    refine lv_if_ne (tgt := 14) hx hb dX6_chase_5 (by decide) (fun c5 => ?_) (fun c5 => ?_)
    · replace hf := ob_neg c5 hf
      refine lv_iconst (v := 0) hx hb dX6_chase_14 (by decide) ?_
      refine lv_istore_n (lv' := [(2, .int 0), (0, .ref a0.1), (1, .int p1)]) hx hb dX6_chase_15 rfl hl (by decide) rfl (fun ls hl => ?_)
      exact blk16 4096 _ _ _ hf _ _ hP hD hS _ (lv_sub hl [1, 2, 0] rfl)
    · replace hf := ob_pos c5 hf
      refine lv_aload_n hx hb dX6_chase_8 rfl (lv_at hl 0 rfl) ?_
      refine lv_iconst (v := (-1)) hx hb dX6_chase_9 (by decide) ?_
      obtain ⟨r6, hr6, hf⟩ := ob_bind hf
      have hFc := va_free (wc := ce_X6 G.2.1 a0 S0) hD hS hA [0, 1, 2, 3, 4, 5, 6, 7, 8, 9] rfl
      refine zc_wr (cf := (fun u => ce_X6 G.2.1 a0 u)) (ws' := ce_X6 G.2.1 a0 r6.2) (va_runV (As := [.int (-1)]) (rest := []) ⟨hx, hb, hml, hown, hts⟩ (c_X6_refuse l G a0 H.size S0 (-1) _ hr6) (cwV 1 hts gX6_chase_X6_refuse rfl rfl rfl (by decide +kernel) ⟨Nat.le_of_ble_eq_true rfl, Nat.le_of_ble_eq_true rfl⟩) ⟨PcM.blind, va_recv hK hP (ci := 6) (q0 := 0) rfl rfl, PcM.ok hP hD hK hE hS hFc⟩ rfl rfl hl.1 rfl (lv_room (Nat.le_of_ble_eq_true rfl)) dX6_chase_10 ⟨Nat.le_refl _, Nat.le_refl _⟩) hP hD hS hA [0, 1, 2, 3, 4, 5, 6, 7, 8, 9] [] [0, 1, 2, 3, 4, 5, 6, 7, 8, 9] rfl rfl (by decide) (by decide) (by decide) rfl (fun H locs hP hD hS => ?_)
      exact fin _ _ _ _ _ _ hf hP hD hS dX6_chase_13
  exact go _ _ hP hD hS _ hl
abbrev rm_X6_ever : Room := { frames := 6, cells := 0, slots := 0, locals := 134 }
set_option maxHeartbeats 4000000 in
set_option maxRecDepth 100000 in
theorem c_X6_ever (l : Launch) (G : zG) (a0 : AT_X6) (sz : Nat) (S0 : ST_X6) (out : Int32) (hf : f_X6_ever S0 = some out) : Met l yX6_ever wsX6_ever rm_X6_ever (PcM G (ce_X6 G.2.1 a0 S0) [.ref a0.1] sz) (QRo G (ce_X6 G.2.1 a0 S0) out (va_A (ce_X6 G.2.1 a0 S0) sz)) 0 0 (va_A (ce_X6 G.2.1 a0 S0) sz) := by
  rw [f_X6_ever] at hf
  refine Met.ofW (cc := cX6_ever) (maxL := 4) (ret := (some .int)) (by decide) rfl ?_
  intro p e s m args below meth c s₁ B hml hv
  obtain ⟨hargs, hsz, hP, hK, hD0, hE⟩ := hv
  have hx := B.exec
  have hb := B.bytes
  have hr := B.returns
  have hts := atoms_spec (ws := wsX6_ever) B.pre
  have hown : s.vm.findClass RX6 = some m.cls := findClass_of_methodNamed B.named
  have hlocks := B.notSynchronized
  subst hsz
  have hD := hD0.self (sz := s.heap.size)
  generalize hAe : va_A (ce_X6 G.2.1 a0 S0) s.heap.size = A at hD hE ⊢
  have hA : ∀ q : Nat, s.heap.size ≤ q → A q := fun q h => by rw [← hAe]; exact Or.inr h
  have hS : va_S A s.heap s.heap [] := va_S.rf
  have hl := lv_entry ([.ref a0.1]) (n := 4) (Nat.le_of_ble_eq_true rfl)
  have hent : entryFrame m args 4 = F0 m 0 ((lg_sl ([.ref a0.1]) ++ List.replicate (4 - (lg_sl ([.ref a0.1])).length) Slot.unset).toArray) [] := by rw [hargs, lg_entry_eq]
  rw [hent]
  clear hent
  generalize (lg_sl ([.ref a0.1]) ++ List.replicate (4 - (lg_sl ([.ref a0.1])).length) Slot.unset).toArray = ls at hl ⊢
  have hl : lv_has ls 4 [(0, .ref a0.1)] := hl
  have lk0 := hts (Cond.fieldLink RX6 13 "EnginesOnListModel" "s" "[I") (List.mem_of_getElem? (i := 1) rfl)
  have hinX6 : ∀ w ∈ wsX60, w ∈ wsX6_ever := by decide +kernel
  have fin : ∀ (pc : Nat) (v : Int32) (H : Heap) (locs : List Loc) (ls : Array Slot), some v = some out → va_P G.1 vwCl (ce_X6 G.2.1 a0 S0) H → va_D A (ce_X6 G.2.1 a0 S0) → va_S A s.heap H locs → decode cX6_ever pc = .ok (.ireturn, 1) → W p l e (headSpec wsX6_ever rm_X6_ever).room s m args below meth c H locs 0 0 (MQ below (QRo G (ce_X6 G.2.1 a0 S0) out A) args s 0 0 A) (F0 m pc ls [.int v]) := fun pc v H locs ls ho hP hD hS hd => W.iret (v := v) hx hb hr (fun t ht hW => ⟨⟨v, (), rfl, Option.some.inj ho, by first | (rw [ht]; exact hP) | (dsimp only; rw [ht]; exact hP)⟩, hS.F ht⟩) hS.2.2 hd
  generalize MQ below (QRo G (ce_X6 G.2.1 a0 S0) out A) args s 0 0 A = Q at fin ⊢
  have blk4 : ∀ (fu4 : Nat), ∀ (v1 : Int32) (v2 : Int32), f_X6_ever_b4 S0 fu4 v1 v2 = some out → ∀ (H : Heap) (locs : List Loc), va_P G.1 vwCl (ce_X6 G.2.1 a0 S0) H → va_D A (ce_X6 G.2.1 a0 S0) → va_S A s.heap H locs → ∀ (ls : Array Slot), lv_has ls 4 [(0, .ref a0.1), (1, .int v1), (2, .int v2)] → W p l e (headSpec wsX6_ever rm_X6_ever).room s m args below meth c H locs 0 0 Q (F0 m 4 ls []) := by
    intro fu4
    induction fu4 with
    | zero => intro v1 v2 hf; exact ob_none hf
    | succ fu4 ih4 =>
      intro v1 v2 hf H locs hP hD hS ls hl
      rw [f_X6_ever_b4] at hf
      have blk16 : ∀ (fu16 : Nat), ∀ (v1 : Int32) (v2 : Int32) (v3 : Int32), f_X6_ever_b16 S0 (f_X6_ever_b4 S0 fu4) fu16 v1 v2 v3 = some out → ∀ (H : Heap) (locs : List Loc), va_P G.1 vwCl (ce_X6 G.2.1 a0 S0) H → va_D A (ce_X6 G.2.1 a0 S0) → va_S A s.heap H locs → ∀ (ls : Array Slot), lv_has ls 4 [(0, .ref a0.1), (1, .int v1), (2, .int v2), (3, .int v3)] → W p l e (headSpec wsX6_ever rm_X6_ever).room s m args below meth c H locs 0 0 Q (F0 m 16 ls []) := by
        intro fu16
        induction fu16 with
        | zero => intro v1 v2 v3 hf; exact ob_none hf
        | succ fu16 ih16 =>
          intro v1 v2 v3 hf H locs hP hD hS ls hl
          rw [f_X6_ever_b16] at hf
          have blk46 : ∀ (v1 : Int32) (v2 : Int32) (v3 : Int32), f_X6_ever_b46 S0 (f_X6_ever_b4 S0 fu4) (f_X6_ever_b16 S0 (f_X6_ever_b4 S0 fu4) fu16) v1 v2 v3 = some out → ∀ (H : Heap) (locs : List Loc), va_P G.1 vwCl (ce_X6 G.2.1 a0 S0) H → va_D A (ce_X6 G.2.1 a0 S0) → va_S A s.heap H locs → ∀ (ls : Array Slot), lv_has ls 4 [(0, .ref a0.1), (1, .int v1), (2, .int v2), (3, .int v3)] → W p l e (headSpec wsX6_ever rm_X6_ever).room s m args below meth c H locs 0 0 Q (F0 m 46 ls []) := by
            intro v1 v2 v3 hf H locs hP hD hS ls hl
            rw [f_X6_ever_b46] at hf
            refine lv_iinc (v := v3 + 1) (lv' := [(3, .int (v3 + 1)), (0, .ref a0.1), (1, .int v1), (2, .int v2)]) hx hb dX6_ever_46 hl (k := 3) rfl rfl (by decide) rfl (fun ls hl => ?_)
            refine lv_goto (tgt := 16) hx hb dX6_ever_49 (by decide) ?_
            exact ih16 _ _ _ hf _ _ hP hD hS _ (lv_sub hl [1, 2, 3, 0] rfl)
          refine lv_iload_n hx hb dX6_ever_16 rfl (lv_at hl 3 rfl) ?_
          refine lv_bipush (v := 60) hx hb dX6_ever_17 (by decide) ?_
          refine lv_icmp_gt (tgt := 52) hx hb dX6_ever_19 (by decide) (fun c1 => ?_) (fun c1 => ?_)
          · replace hf := ob_pos c1 hf
            refine lv_iinc (v := v2 + 1) (lv' := [(2, .int (v2 + 1)), (0, .ref a0.1), (1, .int v1), (3, .int v3)]) hx hb dX6_ever_52 hl (k := 2) rfl rfl (by decide) rfl (fun ls hl => ?_)
            refine lv_goto (tgt := 4) hx hb dX6_ever_55 (by decide) ?_
            exact ih4 _ _ hf _ _ hP hD hS _ (lv_sub hl [1, 2, 0] rfl)
          · replace hf := ob_neg c1 hf
            refine lv_aload_n hx hb dX6_ever_22 rfl (lv_at hl 0 rfl) ?_
            refine lv_iload_n hx hb dX6_ever_23 rfl (lv_at hl 2 rfl) ?_
            refine lv_aload_n hx hb dX6_ever_24 rfl (lv_at hl 0 rfl) ?_
            refine va_get (D := G.1) (ci := 6) (v := .ref a0.2.2.1) (C := RX6) (T := TX6) (N := 14) hx hb hts hinX6 hown hK hP 0 rfl rfl 1 (by decide) lk0 (fun _ h9 => h9) rfl dX6_ever_25 ?_
            refine lv_iconst (v := 1) hx hb dX6_ever_28 (by decide) ?_
            refine va_iald hx hb hK hP 2 0 rfl rfl (by decide : inB 1 130) dX6_ever_29 ?_
            refine zl_top (y := S0.2.1 1) rfl ?_
            refine lv_iload_n hx hb dX6_ever_30 rfl (lv_at hl 3 rfl) ?_
            refine lv_iadd hx hb dX6_ever_31 ?_
            obtain ⟨r2, hr2, hf⟩ := ob_bind hf
            have hFc := va_free (wc := ce_X6 G.2.1 a0 S0) hD hS hA [0, 1, 2, 3, 4, 5, 6, 7, 8, 9] rfl
            refine zc_ro (va_runV (As := [.int v2, .int ((S0.2.1 1) + v3)]) (rest := []) ⟨hx, hb, hml, hown, hts⟩ (c_X6_isAt l G a0 H.size S0 v2 ((S0.2.1 1) + v3) _ hr2) (cwV 2 hts gX6_ever_X6_isAt rfl rfl rfl (by decide +kernel) ⟨Nat.le_of_ble_eq_true rfl, Nat.le_of_ble_eq_true rfl⟩) ⟨PcM.blind, va_recv hK hP (ci := 6) (q0 := 0) rfl rfl, PcM.ok hP hD hK hE hS hFc⟩ rfl rfl hl.1 rfl (lv_room (Nat.le_of_ble_eq_true rfl)) dX6_ever_32 ⟨Nat.le_refl _, Nat.le_refl _⟩) hP hD hS hA [0, 1, 2, 3, 4, 5, 6, 7, 8, 9] rfl (fun H locs hP hS => ?_)
            refine lv_bipush (v := 9) hx hb dX6_ever_35 (by decide) ?_
            refine lv_icmp_eq (tgt := 46) hx hb dX6_ever_37 (by decide) (fun c3 => ?_) (fun c3 => ?_)
            · replace hf := ob_pos c3 hf
              exact blk46 _ _ _ hf _ _ hP hD hS _ (lv_sub hl [0, 1, 2, 3] rfl)
            · replace hf := ob_neg c3 hf
              refine lv_iload_n hx hb dX6_ever_40 rfl (lv_at hl 1 rfl) ?_
              refine lv_iconst (v := 1) hx hb dX6_ever_41 (by decide) ?_
              refine lv_iload_n hx hb dX6_ever_42 rfl (lv_at hl 2 rfl) ?_
              refine lv_ishl hx hb dX6_ever_43 ?_
              refine lv_ior hx hb dX6_ever_44 ?_
              refine lv_istore_n (lv' := [(1, .int (v1 ||| (1 <<< (v2 &&& 31)))), (0, .ref a0.1), (2, .int v2), (3, .int v3)]) hx hb dX6_ever_45 rfl hl (by decide) rfl (fun ls hl => ?_)
              exact blk46 _ _ _ hf _ _ hP hD hS _ (lv_sub hl [1, 0, 2, 3] rfl)
      refine lv_iload_n hx hb dX6_ever_4 rfl (lv_at hl 2 rfl) ?_
      refine lv_aload_n hx hb dX6_ever_5 rfl (lv_at hl 0 rfl) ?_
      refine va_get (D := G.1) (ci := 6) (v := .ref a0.2.2.1) (C := RX6) (T := TX6) (N := 14) hx hb hts hinX6 hown hK hP 0 rfl rfl 1 (by decide) lk0 (fun _ h9 => h9) rfl dX6_ever_6 ?_
      refine lv_iconst (v := 0) hx hb dX6_ever_9 (by decide) ?_
      refine va_iald hx hb hK hP 2 0 rfl rfl (by decide : inB 0 130) dX6_ever_10 ?_
      refine zl_top (y := S0.2.1 0) rfl ?_
      refine lv_icmp_ge (tgt := 58) hx hb dX6_ever_11 (by decide) (fun c4 => ?_) (fun c4 => ?_)
      · replace hf := ob_pos c4 hf
        refine lv_aload_n hx hb dX6_ever_58 rfl (lv_at hl 0 rfl) ?_
        refine lv_iload_n hx hb dX6_ever_59 rfl (lv_at hl 1 rfl) ?_
        obtain ⟨r5, hr5, hf⟩ := ob_bind hf
        have hFc := va_free (wc := ce_X6 G.2.1 a0 S0) hD hS hA [0, 1, 2, 3, 4, 5, 6, 7, 8, 9] rfl
        refine zc_ro (va_runV (As := [.int v1]) (rest := []) ⟨hx, hb, hml, hown, hts⟩ (c_X6_newOf l G a0 H.size S0 v1 _ hr5) (cwV 1 hts gX6_ever_X6_newOf rfl rfl rfl (by decide +kernel) ⟨Nat.le_of_ble_eq_true rfl, Nat.le_of_ble_eq_true rfl⟩) ⟨PcM.blind, va_recv hK hP (ci := 6) (q0 := 0) rfl rfl, PcM.ok hP hD hK hE hS hFc⟩ rfl rfl hl.1 rfl (lv_room (Nat.le_of_ble_eq_true rfl)) dX6_ever_60 ⟨Nat.le_refl _, Nat.le_refl _⟩) hP hD hS hA [0, 1, 2, 3, 4, 5, 6, 7, 8, 9] rfl (fun H locs hP hS => ?_)
        exact fin _ _ _ _ _ hf hP hD hS dX6_ever_63
      · replace hf := ob_neg c4 hf
        refine lv_iconst (v := 0) hx hb dX6_ever_14 (by decide) ?_
        refine lv_istore_n (lv' := [(3, .int 0), (0, .ref a0.1), (1, .int v1), (2, .int v2)]) hx hb dX6_ever_15 rfl hl (by decide) rfl (fun ls hl => ?_)
        exact blk16 4096 _ _ _ hf _ _ hP hD hS _ (lv_sub hl [1, 2, 3, 0] rfl)
  have go : ∀ (H : Heap) (locs : List Loc), va_P G.1 vwCl (ce_X6 G.2.1 a0 S0) H → va_D A (ce_X6 G.2.1 a0 S0) → va_S A s.heap H locs → ∀ (ls : Array Slot), lv_has ls 4 [(0, .ref a0.1)] → W p l e (headSpec wsX6_ever rm_X6_ever).room s m args below meth c H locs 0 0 Q (F0 m 0 ls []) := by
    intro H locs hP hD hS ls hl
    refine lv_iconst (v := 0) hx hb dX6_ever_0 (by decide) ?_
    refine lv_istore_n (lv' := [(1, .int 0), (0, .ref a0.1)]) hx hb dX6_ever_1 rfl hl (by decide) rfl (fun ls hl => ?_)
    refine lv_iconst (v := 0) hx hb dX6_ever_2 (by decide) ?_
    refine lv_istore_n (lv' := [(2, .int 0), (1, .int 0), (0, .ref a0.1)]) hx hb dX6_ever_3 rfl hl (by decide) rfl (fun ls hl => ?_)
    exact blk4 4096 _ _ hf _ _ hP hD hS _ (lv_sub hl [2, 1, 0] rfl)
  exact go _ _ hP hD hS _ hl
abbrev rm_X6_allNew : Room := { frames := 6, cells := 0, slots := 0, locals := 134 }
set_option maxHeartbeats 4000000 in
set_option maxRecDepth 100000 in
theorem c_X6_allNew (l : Launch) (G : zG) (a0 : AT_X6) (sz : Nat) (S0 : ST_X6) (out : Int32) (hf : f_X6_allNew S0 = some out) : Met l yX6_allNew wsX6_allNew rm_X6_allNew (PcM G (ce_X6 G.2.1 a0 S0) [.ref a0.1] sz) (QRo G (ce_X6 G.2.1 a0 S0) out (va_A (ce_X6 G.2.1 a0 S0) sz)) 0 0 (va_A (ce_X6 G.2.1 a0 S0) sz) := by
  rw [f_X6_allNew] at hf
  refine Met.ofW (cc := cX6_allNew) (maxL := 1) (ret := (some .int)) (by decide) rfl ?_
  intro p e s m args below meth c s₁ B hml hv
  obtain ⟨hargs, hsz, hP, hK, hD0, hE⟩ := hv
  have hx := B.exec
  have hb := B.bytes
  have hr := B.returns
  have hts := atoms_spec (ws := wsX6_allNew) B.pre
  have hown : s.vm.findClass RX6 = some m.cls := findClass_of_methodNamed B.named
  have hlocks := B.notSynchronized
  subst hsz
  have hD := hD0.self (sz := s.heap.size)
  generalize hAe : va_A (ce_X6 G.2.1 a0 S0) s.heap.size = A at hD hE ⊢
  have hA : ∀ q : Nat, s.heap.size ≤ q → A q := fun q h => by rw [← hAe]; exact Or.inr h
  have hS : va_S A s.heap s.heap [] := va_S.rf
  have hl := lv_entry ([.ref a0.1]) (n := 1) (Nat.le_of_ble_eq_true rfl)
  have hent : entryFrame m args 1 = F0 m 0 ((lg_sl ([.ref a0.1]) ++ List.replicate (1 - (lg_sl ([.ref a0.1])).length) Slot.unset).toArray) [] := by rw [hargs, lg_entry_eq]
  rw [hent]
  clear hent
  generalize (lg_sl ([.ref a0.1]) ++ List.replicate (1 - (lg_sl ([.ref a0.1])).length) Slot.unset).toArray = ls at hl ⊢
  have hl : lv_has ls 1 [(0, .ref a0.1)] := hl
  have lk0 := hts (Cond.fieldLink RX6 13 "EnginesOnListModel" "s" "[I") (List.mem_of_getElem? (i := 1) rfl)
  have hinX6 : ∀ w ∈ wsX60, w ∈ wsX6_allNew := by decide +kernel
  have fin : ∀ (pc : Nat) (v : Int32) (H : Heap) (locs : List Loc) (ls : Array Slot), some v = some out → va_P G.1 vwCl (ce_X6 G.2.1 a0 S0) H → va_D A (ce_X6 G.2.1 a0 S0) → va_S A s.heap H locs → decode cX6_allNew pc = .ok (.ireturn, 1) → W p l e (headSpec wsX6_allNew rm_X6_allNew).room s m args below meth c H locs 0 0 (MQ below (QRo G (ce_X6 G.2.1 a0 S0) out A) args s 0 0 A) (F0 m pc ls [.int v]) := fun pc v H locs ls ho hP hD hS hd => W.iret (v := v) hx hb hr (fun t ht hW => ⟨⟨v, (), rfl, Option.some.inj ho, by first | (rw [ht]; exact hP) | (dsimp only; rw [ht]; exact hP)⟩, hS.F ht⟩) hS.2.2 hd
  generalize MQ below (QRo G (ce_X6 G.2.1 a0 S0) out A) args s 0 0 A = Q at fin ⊢
  have go : ∀ (H : Heap) (locs : List Loc), va_P G.1 vwCl (ce_X6 G.2.1 a0 S0) H → va_D A (ce_X6 G.2.1 a0 S0) → va_S A s.heap H locs → ∀ (ls : Array Slot), lv_has ls 1 [(0, .ref a0.1)] → W p l e (headSpec wsX6_allNew rm_X6_allNew).room s m args below meth c H locs 0 0 Q (F0 m 0 ls []) := by
    intro H locs hP hD hS ls hl
    refine lv_aload_n hx hb dX6_allNew_0 rfl (lv_at hl 0 rfl) ?_
    refine lv_iconst (v := 1) hx hb dX6_allNew_1 (by decide) ?_
    refine lv_aload_n hx hb dX6_allNew_2 rfl (lv_at hl 0 rfl) ?_
    refine va_get (D := G.1) (ci := 6) (v := .ref a0.2.2.1) (C := RX6) (T := TX6) (N := 14) hx hb hts hinX6 hown hK hP 0 rfl rfl 1 (by decide) lk0 (fun _ h9 => h9) rfl dX6_allNew_3 ?_
    refine lv_iconst (v := 0) hx hb dX6_allNew_6 (by decide) ?_
    refine va_iald hx hb hK hP 2 0 rfl rfl (by decide : inB 0 130) dX6_allNew_7 ?_
    refine zl_top (y := S0.2.1 0) rfl ?_
    refine lv_ishl hx hb dX6_allNew_8 ?_
    refine lv_iconst (v := 1) hx hb dX6_allNew_9 (by decide) ?_
    refine lv_isub hx hb dX6_allNew_10 ?_
    obtain ⟨r1, hr1, hf⟩ := ob_bind hf
    have hFc := va_free (wc := ce_X6 G.2.1 a0 S0) hD hS hA [0, 1, 2, 3, 4, 5, 6, 7, 8, 9] rfl
    refine zc_ro (va_runV (As := [.int ((1 <<< ((S0.2.1 0) &&& 31)) - 1)]) (rest := []) ⟨hx, hb, hml, hown, hts⟩ (c_X6_newOf l G a0 H.size S0 ((1 <<< ((S0.2.1 0) &&& 31)) - 1) _ hr1) (cwV 1 hts gX6_allNew_X6_newOf rfl rfl rfl (by decide +kernel) ⟨Nat.le_of_ble_eq_true rfl, Nat.le_of_ble_eq_true rfl⟩) ⟨PcM.blind, va_recv hK hP (ci := 6) (q0 := 0) rfl rfl, PcM.ok hP hD hK hE hS hFc⟩ rfl rfl hl.1 rfl (lv_room (Nat.le_of_ble_eq_true rfl)) dX6_allNew_11 ⟨Nat.le_refl _, Nat.le_refl _⟩) hP hD hS hA [0, 1, 2, 3, 4, 5, 6, 7, 8, 9] rfl (fun H locs hP hS => ?_)
    exact fin _ _ _ _ _ hf hP hD hS dX6_allNew_14
  exact go _ _ hP hD hS _ hl
abbrev rm_X6_all : Room := { frames := 20, cells := 0, slots := 0, locals := 768 }
set_option maxHeartbeats 4000000 in
set_option maxRecDepth 100000 in
theorem c_X6_all (l : Launch) (G : zG) (a0 : AT_X6) (sz : Nat) (S0 : ST_X6) (out : Int32 × ST_X6) (hf : f_X6_all S0 = some out) : Met l yX6_all wsX6_all rm_X6_all (PcM G (ce_X6 G.2.1 a0 S0) [.ref a0.1] sz) (QWr G (fun u => ce_X6 G.2.1 a0 u) out (va_A (ce_X6 G.2.1 a0 S0) sz)) 0 0 (va_A (ce_X6 G.2.1 a0 S0) sz) := by
  rw [f_X6_all] at hf
  refine Met.ofW (cc := cX6_all) (maxL := 3) (ret := (some .int)) (by decide) rfl ?_
  intro p e s m args below meth c s₁ B hml hv
  obtain ⟨hargs, hsz, hP, hK, hD0, hE⟩ := hv
  have hx := B.exec
  have hb := B.bytes
  have hr := B.returns
  have hts := atoms_spec (ws := wsX6_all) B.pre
  have hown : s.vm.findClass RX6 = some m.cls := findClass_of_methodNamed B.named
  have hlocks := B.notSynchronized
  subst hsz
  have hD := hD0.self (sz := s.heap.size)
  generalize hAe : va_A (ce_X6 G.2.1 a0 S0) s.heap.size = A at hD hE ⊢
  have hA : ∀ q : Nat, s.heap.size ≤ q → A q := fun q h => by rw [← hAe]; exact Or.inr h
  have hS : va_S A s.heap s.heap [] := va_S.rf
  have hl := lv_entry ([.ref a0.1]) (n := 3) (Nat.le_of_ble_eq_true rfl)
  have hent : entryFrame m args 3 = F0 m 0 ((lg_sl ([.ref a0.1]) ++ List.replicate (3 - (lg_sl ([.ref a0.1])).length) Slot.unset).toArray) [] := by rw [hargs, lg_entry_eq]
  rw [hent]
  clear hent
  generalize (lg_sl ([.ref a0.1]) ++ List.replicate (3 - (lg_sl ([.ref a0.1])).length) Slot.unset).toArray = ls at hl ⊢
  have hl : lv_has ls 3 [(0, .ref a0.1)] := hl
  have lk0 := hts (Cond.fieldLink RX6 128 "EnginesOnListModel" "bestNew" "I") (List.mem_of_getElem? (i := 1) rfl)
  have hinX6 : ∀ w ∈ wsX60, w ∈ wsX6_all := by decide +kernel
  have fin : ∀ (pc : Nat) (v : Int32) (u : ST_X6) (H : Heap) (locs : List Loc) (ls : Array Slot), some (v, u) = some out → va_P G.1 vwCl (ce_X6 G.2.1 a0 u) H → va_D A (ce_X6 G.2.1 a0 u) → va_S A s.heap H locs → decode cX6_all pc = .ok (.ireturn, 1) → W p l e (headSpec wsX6_all rm_X6_all).room s m args below meth c H locs 0 0 (MQ below (QWr G (fun u => ce_X6 G.2.1 a0 u) out A) args s 0 0 A) (F0 m pc ls [.int v]) := fun pc v u H locs ls ho hP hD hS hd => W.iret (v := v) hx hb hr (fun t ht hW => ⟨⟨v, u, rfl, ob_pair ho, by first | (rw [ht]; exact hP) | (dsimp only; rw [ht]; exact hP), hD⟩, hS.F ht⟩) hS.2.2 hd
  generalize MQ below (QWr G (fun u => ce_X6 G.2.1 a0 u) out A) args s 0 0 A = Q at fin ⊢
  have blk13 : ∀ (fu13 : Nat), ∀ (S0 : ST_X6) (v1 : Int32) (v2 : Int32), f_X6_all_b13 fu13 S0 v1 v2 = some out → ∀ (H : Heap) (locs : List Loc), va_P G.1 vwCl (ce_X6 G.2.1 a0 S0) H → va_D A (ce_X6 G.2.1 a0 S0) → va_S A s.heap H locs → ∀ (ls : Array Slot), lv_has ls 3 [(0, .ref a0.1), (1, .int v1), (2, .int v2)] → W p l e (headSpec wsX6_all rm_X6_all).room s m args below meth c H locs 0 0 Q (F0 m 13 ls []) := by
    intro fu13
    induction fu13 with
    | zero => intro S0 v1 v2 hf; exact ob_none hf
    | succ fu13 ih13 =>
      intro S0 v1 v2 hf H locs hP hD hS ls hl
      rw [f_X6_all_b13] at hf
      refine lv_iload_n hx hb dX6_all_13 rfl (lv_at hl 2 rfl) ?_
      refine lv_iconst (v := 5) hx hb dX6_all_14 (by decide) ?_
      refine lv_icmp_gt (tgt := 41) hx hb dX6_all_15 (by decide) (fun c1 => ?_) (fun c1 => ?_)
      · replace hf := ob_pos c1 hf
        refine lv_bipush (v := (-9)) hx hb dX6_all_41 (by decide) ?_
        exact fin _ _ _ _ _ _ hf hP hD hS dX6_all_43
      · replace hf := ob_neg c1 hf
        refine lv_aload_n hx hb dX6_all_18 rfl (lv_at hl 0 rfl) ?_
        refine lv_iload_n hx hb dX6_all_19 rfl (lv_at hl 2 rfl) ?_
        refine lv_bipush (v := 20) hx hb dX6_all_20 (by decide) ?_
        obtain ⟨r2, hr2, hf⟩ := ob_bind hf
        have hFc := va_free (wc := ce_X6 G.2.1 a0 S0) hD hS hA [0, 1, 2, 3, 4, 5, 6, 7, 8, 9] rfl
        refine zc_wv (cf := (fun u => ce_X6 G.2.1 a0 u)) (ws' := ce_X6 G.2.1 a0 r2) (va_runV (As := [.int v2, .int 20]) (rest := []) ⟨hx, hb, hml, hown, hts⟩ (c_X6_findsPlan l G a0 H.size S0 v2 20 _ hr2) (cwV 2 hts gX6_all_X6_findsPlan rfl rfl rfl (by decide +kernel) ⟨Nat.le_of_ble_eq_true rfl, Nat.le_of_ble_eq_true rfl⟩) ⟨PcM.blind, va_recv hK hP (ci := 6) (q0 := 0) rfl rfl, PcM.ok hP hD hK hE hS hFc⟩ rfl rfl hl.1 rfl (lv_room (Nat.le_of_ble_eq_true rfl)) dX6_all_22 ⟨Nat.le_refl _, Nat.le_refl _⟩) hP hD hS hA [0, 1, 2, 3, 4, 5, 6, 7, 8, 9] [] [0, 1, 2, 3, 4, 5, 6, 7, 8, 9] rfl rfl (by decide) (by decide) (by decide) rfl (fun H locs hP hD hS => ?_)
        refine lv_aload_n hx hb dX6_all_25 rfl (lv_at hl 0 rfl) ?_
        refine va_get (D := G.1) (ci := 6) (v := .int r2.2.2.2.2.2.2.2.2.2.2.2.1) (C := RX6) (T := TX6) (N := 14) hx hb hts hinX6 hown hK hP 0 rfl rfl 11 (by decide) lk0 (fun _ h9 => h9) rfl dX6_all_26 ?_
        refine lv_iload_n hx hb dX6_all_29 rfl (lv_at hl 1 rfl) ?_
        refine lv_icmp_ne (tgt := 35) hx hb dX6_all_30 (by decide) (fun c3 => ?_) (fun c3 => ?_)
        · replace hf := ob_neg c3 hf
          refine lv_iinc (v := v2 + 1) (lv' := [(2, .int (v2 + 1)), (0, .ref a0.1), (1, .int v1)]) hx hb dX6_all_35 hl (k := 2) rfl rfl (by decide) rfl (fun ls hl => ?_)
          refine lv_goto (tgt := 13) hx hb dX6_all_38 (by decide) ?_
          exact ih13 _ _ _ hf _ _ hP hD hS _ (lv_sub hl [1, 2, 0] rfl)
        · replace hf := ob_pos c3 hf
          refine lv_iload_n hx hb dX6_all_33 rfl (lv_at hl 2 rfl) ?_
          exact fin _ _ _ _ _ _ hf hP hD hS dX6_all_34
  have go : ∀ (H : Heap) (locs : List Loc), va_P G.1 vwCl (ce_X6 G.2.1 a0 S0) H → va_D A (ce_X6 G.2.1 a0 S0) → va_S A s.heap H locs → ∀ (ls : Array Slot), lv_has ls 3 [(0, .ref a0.1)] → W p l e (headSpec wsX6_all rm_X6_all).room s m args below meth c H locs 0 0 Q (F0 m 0 ls []) := by
    intro H locs hP hD hS ls hl
    refine lv_aload_n hx hb dX6_all_0 rfl (lv_at hl 0 rfl) ?_
    obtain ⟨r4, hr4, hf⟩ := ob_bind hf
    have hFc := va_free (wc := ce_X6 G.2.1 a0 S0) hD hS hA [0, 1, 2, 3, 4, 5, 6, 7, 8, 9] rfl
    refine zc_ro (va_runV (As := []) (rest := []) ⟨hx, hb, hml, hown, hts⟩ (c_X6_allNew l G a0 H.size S0 _ hr4) (cwV 0 hts gX6_all_X6_allNew rfl rfl rfl (by decide +kernel) ⟨Nat.le_of_ble_eq_true rfl, Nat.le_of_ble_eq_true rfl⟩) ⟨PcM.blind, va_recv hK hP (ci := 6) (q0 := 0) rfl rfl, PcM.ok hP hD hK hE hS hFc⟩ rfl rfl hl.1 rfl (lv_room (Nat.le_of_ble_eq_true rfl)) dX6_all_1 ⟨Nat.le_refl _, Nat.le_refl _⟩) hP hD hS hA [0, 1, 2, 3, 4, 5, 6, 7, 8, 9] rfl (fun H locs hP hS => ?_)
    refine lv_istore_n (lv' := [(1, .int r4), (0, .ref a0.1)]) hx hb dX6_all_4 rfl hl (by decide) rfl (fun ls hl => ?_)
    refine lv_iload_n hx hb dX6_all_5 rfl (lv_at hl 0 rfl) ?_
    refine lv_if_ne (tgt := 11) hx hb dX6_all_6 (by decide) (fun c5 => ?_) (fun c5 => ?_)
    · replace hf := ob_neg c5 hf
      refine lv_iconst (v := 1) hx hb dX6_all_11 (by decide) ?_
      refine lv_istore_n (lv' := [(2, .int 1), (1, .int r4), (0, .ref a0.1)]) hx hb dX6_all_12 rfl hl (by decide) rfl (fun ls hl => ?_)
      exact blk13 4096 _ _ _ hf _ _ hP hD hS _ (lv_sub hl [2, 1, 0] rfl)
    · replace hf := ob_pos c5 hf
      refine lv_iconst (v := 0) hx hb dX6_all_9 (by decide) ?_
      exact fin _ _ _ _ _ _ hf hP hD hS dX6_all_10
  exact go _ _ hP hD hS _ hl
abbrev rm_X6_in : Room := { frames := 1, cells := 0, slots := 0, locals := 24 }
set_option maxHeartbeats 4000000 in
set_option maxRecDepth 100000 in
theorem c_X6_in (l : Launch) (G : zG) (a0 : AT_X6) (sz : Nat) (S0 : ST_X6) (p1 : Int32) (p2 : Int32) (out : Int32) (hf : f_X6_in S0 p1 p2 = some out) : Met l yX6_in wsX6_in rm_X6_in (PcM G (ce_X6 G.2.1 a0 S0) [.ref a0.1, .int p1, .int p2] sz) (QRo G (ce_X6 G.2.1 a0 S0) out (va_A (ce_X6 G.2.1 a0 S0) sz)) 0 0 (va_A (ce_X6 G.2.1 a0 S0) sz) := by
  rw [f_X6_in] at hf
  refine Met.ofW (cc := cX6_in) (maxL := 3) (ret := (some .int)) (by decide) rfl ?_
  intro p e s m args below meth c s₁ B hml hv
  obtain ⟨hargs, hsz, hP, hK, hD0, hE⟩ := hv
  have hx := B.exec
  have hb := B.bytes
  have hr := B.returns
  have hts := atoms_spec (ws := wsX6_in) B.pre
  have hown : s.vm.findClass RX6 = some m.cls := findClass_of_methodNamed B.named
  have hlocks := B.notSynchronized
  subst hsz
  have hD := hD0.self (sz := s.heap.size)
  generalize hAe : va_A (ce_X6 G.2.1 a0 S0) s.heap.size = A at hD hE ⊢
  have hA : ∀ q : Nat, s.heap.size ≤ q → A q := fun q h => by rw [← hAe]; exact Or.inr h
  have hS : va_S A s.heap s.heap [] := va_S.rf
  have hl := lv_entry ([.ref a0.1, .int p1, .int p2]) (n := 3) (Nat.le_of_ble_eq_true rfl)
  have hent : entryFrame m args 3 = F0 m 0 ((lg_sl ([.ref a0.1, .int p1, .int p2]) ++ List.replicate (3 - (lg_sl ([.ref a0.1, .int p1, .int p2])).length) Slot.unset).toArray) [] := by rw [hargs, lg_entry_eq]
  rw [hent]
  clear hent
  generalize (lg_sl ([.ref a0.1, .int p1, .int p2]) ++ List.replicate (3 - (lg_sl ([.ref a0.1, .int p1, .int p2])).length) Slot.unset).toArray = ls at hl ⊢
  have hl : lv_has ls 3 [(0, .ref a0.1), (1, .int p1), (2, .int p2)] := hl
  have lk0 := hts (Cond.fieldLink RX6 13 "EnginesOnListModel" "s" "[I") (List.mem_of_getElem? (i := 1) rfl)
  have hinX6 : ∀ w ∈ wsX60, w ∈ wsX6_in := by decide +kernel
  have fin : ∀ (pc : Nat) (v : Int32) (H : Heap) (locs : List Loc) (ls : Array Slot), some v = some out → va_P G.1 vwCl (ce_X6 G.2.1 a0 S0) H → va_D A (ce_X6 G.2.1 a0 S0) → va_S A s.heap H locs → decode cX6_in pc = .ok (.ireturn, 1) → W p l e (headSpec wsX6_in rm_X6_in).room s m args below meth c H locs 0 0 (MQ below (QRo G (ce_X6 G.2.1 a0 S0) out A) args s 0 0 A) (F0 m pc ls [.int v]) := fun pc v H locs ls ho hP hD hS hd => W.iret (v := v) hx hb hr (fun t ht hW => ⟨⟨v, (), rfl, Option.some.inj ho, by first | (rw [ht]; exact hP) | (dsimp only; rw [ht]; exact hP)⟩, hS.F ht⟩) hS.2.2 hd
  generalize MQ below (QRo G (ce_X6 G.2.1 a0 S0) out A) args s 0 0 A = Q at fin ⊢
  have go : ∀ (H : Heap) (locs : List Loc), va_P G.1 vwCl (ce_X6 G.2.1 a0 S0) H → va_D A (ce_X6 G.2.1 a0 S0) → va_S A s.heap H locs → ∀ (ls : Array Slot), lv_has ls 3 [(0, .ref a0.1), (1, .int p1), (2, .int p2)] → W p l e (headSpec wsX6_in rm_X6_in).room s m args below meth c H locs 0 0 Q (F0 m 0 ls []) := by
    intro H locs hP hD hS ls hl
    refine lv_aload_n hx hb dX6_in_0 rfl (lv_at hl 0 rfl) ?_
    refine va_get (D := G.1) (ci := 6) (v := .ref a0.2.2.1) (C := RX6) (T := TX6) (N := 14) hx hb hts hinX6 hown hK hP 0 rfl rfl 1 (by decide) lk0 (fun _ h9 => h9) rfl dX6_in_1 ?_
    refine lv_bipush (v := 82) hx hb dX6_in_4 (by decide) ?_
    refine lv_iconst (v := 4) hx hb dX6_in_6 (by decide) ?_
    refine lv_iload_n hx hb dX6_in_7 rfl (lv_at hl 1 rfl) ?_
    refine lv_imul hx hb dX6_in_8 ?_
    refine lv_iadd hx hb dX6_in_9 ?_
    refine lv_iload_n hx hb dX6_in_10 rfl (lv_at hl 2 rfl) ?_
    refine lv_iadd hx hb dX6_in_11 ?_
    obtain ⟨hg1, hf⟩ := ob_guard hf
    refine va_iald hx hb hK hP 2 0 rfl rfl hg1 dX6_in_12 ?_
    exact fin _ _ _ _ _ hf hP hD hS dX6_in_13
  exact go _ _ hP hD hS _ hl
abbrev rm_X6_reading : Room := { frames := 3, cells := 0, slots := 0, locals := 65 }
set_option maxHeartbeats 4000000 in
set_option maxRecDepth 100000 in
theorem c_X6_reading (l : Launch) (G : zG) (a0 : AT_X6) (sz : Nat) (S0 : ST_X6) (p1 : Int32) (p2 : Int32) (p3 : Int32) (p4 : Int32) (out : Int32 × ST_X6) (hf : f_X6_reading S0 p1 p2 p3 p4 = some out) : Met l yX6_reading wsX6_reading rm_X6_reading (PcM G (ce_X6 G.2.1 a0 S0) [.ref a0.1, .int p1, .int p2, .int p3, .int p4] sz) (QWr G (fun u => ce_X6 G.2.1 a0 u) out (va_A (ce_X6 G.2.1 a0 S0) sz)) 0 0 (va_A (ce_X6 G.2.1 a0 S0) sz) := by
  rw [f_X6_reading] at hf
  refine Met.ofW (cc := cX6_reading) (maxL := 7) (ret := (some .int)) (by decide) rfl ?_
  intro p e s m args below meth c s₁ B hml hv
  obtain ⟨hargs, hsz, hP, hK, hD0, hE⟩ := hv
  have hx := B.exec
  have hb := B.bytes
  have hr := B.returns
  have hts := atoms_spec (ws := wsX6_reading) B.pre
  have hown : s.vm.findClass RX6 = some m.cls := findClass_of_methodNamed B.named
  have hlocks := B.notSynchronized
  subst hsz
  have hD := hD0.self (sz := s.heap.size)
  generalize hAe : va_A (ce_X6 G.2.1 a0 S0) s.heap.size = A at hD hE ⊢
  have hA : ∀ q : Nat, s.heap.size ≤ q → A q := fun q h => by rw [← hAe]; exact Or.inr h
  have hS : va_S A s.heap s.heap [] := va_S.rf
  have hl := lv_entry ([.ref a0.1, .int p1, .int p2, .int p3, .int p4]) (n := 7) (Nat.le_of_ble_eq_true rfl)
  have hent : entryFrame m args 7 = F0 m 0 ((lg_sl ([.ref a0.1, .int p1, .int p2, .int p3, .int p4]) ++ List.replicate (7 - (lg_sl ([.ref a0.1, .int p1, .int p2, .int p3, .int p4])).length) Slot.unset).toArray) [] := by rw [hargs, lg_entry_eq]
  rw [hent]
  clear hent
  generalize (lg_sl ([.ref a0.1, .int p1, .int p2, .int p3, .int p4]) ++ List.replicate (7 - (lg_sl ([.ref a0.1, .int p1, .int p2, .int p3, .int p4])).length) Slot.unset).toArray = ls at hl ⊢
  have hl : lv_has ls 7 [(0, .ref a0.1), (1, .int p1), (2, .int p2), (3, .int p3), (4, .int p4)] := hl
  have lk0 := hts (Cond.fieldLink RX6 13 "EnginesOnListModel" "s" "[I") (List.mem_of_getElem? (i := 1) rfl)
  have hinX6 : ∀ w ∈ wsX60, w ∈ wsX6_reading := by decide +kernel
  have fin : ∀ (pc : Nat) (v : Int32) (u : ST_X6) (H : Heap) (locs : List Loc) (ls : Array Slot), some (v, u) = some out → va_P G.1 vwCl (ce_X6 G.2.1 a0 u) H → va_D A (ce_X6 G.2.1 a0 u) → va_S A s.heap H locs → decode cX6_reading pc = .ok (.ireturn, 1) → W p l e (headSpec wsX6_reading rm_X6_reading).room s m args below meth c H locs 0 0 (MQ below (QWr G (fun u => ce_X6 G.2.1 a0 u) out A) args s 0 0 A) (F0 m pc ls [.int v]) := fun pc v u H locs ls ho hP hD hS hd => W.iret (v := v) hx hb hr (fun t ht hW => ⟨⟨v, u, rfl, ob_pair ho, by first | (rw [ht]; exact hP) | (dsimp only; rw [ht]; exact hP), hD⟩, hS.F ht⟩) hS.2.2 hd
  generalize MQ below (QWr G (fun u => ce_X6 G.2.1 a0 u) out A) args s 0 0 A = Q at fin ⊢
  have blk65 : ∀ (S0 : ST_X6) (v1 : Int32) (v2 : Int32) (v3 : Int32) (v4 : Int32) (w0 : Int32), f_X6_reading_b65 S0 v1 v2 v3 v4 w0 = some out → ∀ (H : Heap) (locs : List Loc), va_P G.1 vwCl (ce_X6 G.2.1 a0 S0) H → va_D A (ce_X6 G.2.1 a0 S0) → va_S A s.heap H locs → ∀ (ls : Array Slot), lv_has ls 7 [(0, .ref a0.1), (1, .int v1), (2, .int v2), (3, .int v3), (4, .int v4)] → W p l e (headSpec wsX6_reading rm_X6_reading).room s m args below meth c H locs 0 0 Q (F0 m 65 ls [.int w0]) := by
    intro S0 v1 v2 v3 v4 w0 hf H locs hP hD hS ls hl
    rw [f_X6_reading_b65] at hf
    refine lv_istore (lv' := [(5, .int w0), (0, .ref a0.1), (1, .int v1), (2, .int v2), (3, .int v3), (4, .int v4)]) hx hb dX6_reading_65 hl (by decide) rfl (fun ls hl => ?_)
    refine lv_iload hx hb dX6_reading_67 (lv_at hl 0 rfl) ?_
    refine lv_if_eq (tgt := 79) hx hb dX6_reading_69 (by decide) (fun c1 => ?_) (fun c1 => ?_)
    · replace hf := ob_pos c1 hf
      refine lv_bipush (v := 82) hx hb dX6_reading_79 (by decide) ?_
      refine lv_iconst (v := 4) hx hb dX6_reading_81 (by decide) ?_
      refine lv_aload_n hx hb dX6_reading_82 rfl (lv_at hl 1 rfl) ?_
      refine va_get (D := G.1) (ci := 6) (v := .ref a0.2.2.1) (C := RX6) (T := TX6) (N := 14) hx hb hts hinX6 hown hK hP 0 rfl rfl 1 (by decide) lk0 (fun _ h9 => h9) rfl dX6_reading_83 ?_
      refine lv_iconst (v := 4) hx hb dX6_reading_86 (by decide) ?_
      refine va_iald hx hb hK hP 2 0 rfl rfl (by decide : inB 4 130) dX6_reading_87 ?_
      refine zl_top (y := S0.2.1 4) rfl ?_
      refine lv_imul hx hb dX6_reading_88 ?_
      refine lv_iadd hx hb dX6_reading_89 ?_
      refine lv_istore (lv' := [(6, .int (82 + (4 * (S0.2.1 4)))), (5, .int w0), (0, .ref a0.1), (1, .int v1), (2, .int v2), (3, .int v3), (4, .int v4)]) hx hb dX6_reading_90 hl (by decide) rfl (fun ls hl => ?_)
      refine lv_aload_n hx hb dX6_reading_92 rfl (lv_at hl 2 rfl) ?_
      refine va_get (D := G.1) (ci := 6) (v := .ref a0.2.2.1) (C := RX6) (T := TX6) (N := 14) hx hb hts hinX6 hown hK hP 0 rfl rfl 1 (by decide) lk0 (fun _ h9 => h9) rfl dX6_reading_93 ?_
      refine lv_iload hx hb dX6_reading_96 (lv_at hl 0 rfl) ?_
      refine lv_iload_n hx hb dX6_reading_98 rfl (lv_at hl 3 rfl) ?_
      obtain ⟨hg2, hf⟩ := ob_guard hf
      refine va_iast hx hb hK hP hD hS 2 0 rfl rfl hg2 dX6_reading_99 (fun H locs hP hD hS => ?_)
      have hP : va_P G.1 vwCl (ce_X6 G.2.1 a0 (S0.1, (upd S0.2.1 ((82 + (4 * (S0.2.1 4))).toNatClampNeg) v1), S0.2.2.1, S0.2.2.2.1, S0.2.2.2.2.1, S0.2.2.2.2.2.1, S0.2.2.2.2.2.2.1, S0.2.2.2.2.2.2.2.1, S0.2.2.2.2.2.2.2.2.1, S0.2.2.2.2.2.2.2.2.2.1, S0.2.2.2.2.2.2.2.2.2.2.1, S0.2.2.2.2.2.2.2.2.2.2.2.1, S0.2.2.2.2.2.2.2.2.2.2.2.2.1, S0.2.2.2.2.2.2.2.2.2.2.2.2.2)) H := hP
      have hD : va_D A (ce_X6 G.2.1 a0 (S0.1, (upd S0.2.1 ((82 + (4 * (S0.2.1 4))).toNatClampNeg) v1), S0.2.2.1, S0.2.2.2.1, S0.2.2.2.2.1, S0.2.2.2.2.2.1, S0.2.2.2.2.2.2.1, S0.2.2.2.2.2.2.2.1, S0.2.2.2.2.2.2.2.2.1, S0.2.2.2.2.2.2.2.2.2.1, S0.2.2.2.2.2.2.2.2.2.2.1, S0.2.2.2.2.2.2.2.2.2.2.2.1, S0.2.2.2.2.2.2.2.2.2.2.2.2.1, S0.2.2.2.2.2.2.2.2.2.2.2.2.2)) := hD
      refine lv_aload_n hx hb dX6_reading_100 rfl (lv_at hl 2 rfl) ?_
      refine va_get (D := G.1) (ci := 6) (v := .ref a0.2.2.1) (C := RX6) (T := TX6) (N := 14) hx hb hts hinX6 hown hK hP 0 rfl rfl 1 (by decide) lk0 (fun _ h9 => h9) rfl dX6_reading_101 ?_
      refine lv_iload hx hb dX6_reading_104 (lv_at hl 0 rfl) ?_
      refine lv_iconst (v := 1) hx hb dX6_reading_106 (by decide) ?_
      refine lv_iadd hx hb dX6_reading_107 ?_
      refine lv_iload_n hx hb dX6_reading_108 rfl (lv_at hl 4 rfl) ?_
      obtain ⟨hg3, hf⟩ := ob_guard hf
      refine va_iast hx hb hK hP hD hS 2 0 rfl rfl hg3 dX6_reading_109 (fun H locs hP hD hS => ?_)
      have hP : va_P G.1 vwCl (ce_X6 G.2.1 a0 (S0.1, (upd (upd S0.2.1 ((82 + (4 * (S0.2.1 4))).toNatClampNeg) v1) (((82 + (4 * (S0.2.1 4))) + 1).toNatClampNeg) v2), S0.2.2.1, S0.2.2.2.1, S0.2.2.2.2.1, S0.2.2.2.2.2.1, S0.2.2.2.2.2.2.1, S0.2.2.2.2.2.2.2.1, S0.2.2.2.2.2.2.2.2.1, S0.2.2.2.2.2.2.2.2.2.1, S0.2.2.2.2.2.2.2.2.2.2.1, S0.2.2.2.2.2.2.2.2.2.2.2.1, S0.2.2.2.2.2.2.2.2.2.2.2.2.1, S0.2.2.2.2.2.2.2.2.2.2.2.2.2)) H := hP
      have hD : va_D A (ce_X6 G.2.1 a0 (S0.1, (upd (upd S0.2.1 ((82 + (4 * (S0.2.1 4))).toNatClampNeg) v1) (((82 + (4 * (S0.2.1 4))) + 1).toNatClampNeg) v2), S0.2.2.1, S0.2.2.2.1, S0.2.2.2.2.1, S0.2.2.2.2.2.1, S0.2.2.2.2.2.2.1, S0.2.2.2.2.2.2.2.1, S0.2.2.2.2.2.2.2.2.1, S0.2.2.2.2.2.2.2.2.2.1, S0.2.2.2.2.2.2.2.2.2.2.1, S0.2.2.2.2.2.2.2.2.2.2.2.1, S0.2.2.2.2.2.2.2.2.2.2.2.2.1, S0.2.2.2.2.2.2.2.2.2.2.2.2.2)) := hD
      refine lv_aload_n hx hb dX6_reading_110 rfl (lv_at hl 2 rfl) ?_
      refine va_get (D := G.1) (ci := 6) (v := .ref a0.2.2.1) (C := RX6) (T := TX6) (N := 14) hx hb hts hinX6 hown hK hP 0 rfl rfl 1 (by decide) lk0 (fun _ h9 => h9) rfl dX6_reading_111 ?_
      refine lv_iload hx hb dX6_reading_114 (lv_at hl 0 rfl) ?_
      refine lv_iconst (v := 2) hx hb dX6_reading_116 (by decide) ?_
      refine lv_iadd hx hb dX6_reading_117 ?_
      refine lv_iload_n hx hb dX6_reading_118 rfl (lv_at hl 5 rfl) ?_
      obtain ⟨hg4, hf⟩ := ob_guard hf
      refine va_iast hx hb hK hP hD hS 2 0 rfl rfl hg4 dX6_reading_119 (fun H locs hP hD hS => ?_)
      have hP : va_P G.1 vwCl (ce_X6 G.2.1 a0 (S0.1, (upd (upd (upd S0.2.1 ((82 + (4 * (S0.2.1 4))).toNatClampNeg) v1) (((82 + (4 * (S0.2.1 4))) + 1).toNatClampNeg) v2) (((82 + (4 * (S0.2.1 4))) + 2).toNatClampNeg) v3), S0.2.2.1, S0.2.2.2.1, S0.2.2.2.2.1, S0.2.2.2.2.2.1, S0.2.2.2.2.2.2.1, S0.2.2.2.2.2.2.2.1, S0.2.2.2.2.2.2.2.2.1, S0.2.2.2.2.2.2.2.2.2.1, S0.2.2.2.2.2.2.2.2.2.2.1, S0.2.2.2.2.2.2.2.2.2.2.2.1, S0.2.2.2.2.2.2.2.2.2.2.2.2.1, S0.2.2.2.2.2.2.2.2.2.2.2.2.2)) H := hP
      have hD : va_D A (ce_X6 G.2.1 a0 (S0.1, (upd (upd (upd S0.2.1 ((82 + (4 * (S0.2.1 4))).toNatClampNeg) v1) (((82 + (4 * (S0.2.1 4))) + 1).toNatClampNeg) v2) (((82 + (4 * (S0.2.1 4))) + 2).toNatClampNeg) v3), S0.2.2.1, S0.2.2.2.1, S0.2.2.2.2.1, S0.2.2.2.2.2.1, S0.2.2.2.2.2.2.1, S0.2.2.2.2.2.2.2.1, S0.2.2.2.2.2.2.2.2.1, S0.2.2.2.2.2.2.2.2.2.1, S0.2.2.2.2.2.2.2.2.2.2.1, S0.2.2.2.2.2.2.2.2.2.2.2.1, S0.2.2.2.2.2.2.2.2.2.2.2.2.1, S0.2.2.2.2.2.2.2.2.2.2.2.2.2)) := hD
      refine lv_aload_n hx hb dX6_reading_120 rfl (lv_at hl 2 rfl) ?_
      refine va_get (D := G.1) (ci := 6) (v := .ref a0.2.2.1) (C := RX6) (T := TX6) (N := 14) hx hb hts hinX6 hown hK hP 0 rfl rfl 1 (by decide) lk0 (fun _ h9 => h9) rfl dX6_reading_121 ?_
      refine lv_iload hx hb dX6_reading_124 (lv_at hl 0 rfl) ?_
      refine lv_iconst (v := 3) hx hb dX6_reading_126 (by decide) ?_
      refine lv_iadd hx hb dX6_reading_127 ?_
      refine lv_iload hx hb dX6_reading_128 (lv_at hl 6 rfl) ?_
      obtain ⟨hg5, hf⟩ := ob_guard hf
      refine va_iast hx hb hK hP hD hS 2 0 rfl rfl hg5 dX6_reading_130 (fun H locs hP hD hS => ?_)
      have hP : va_P G.1 vwCl (ce_X6 G.2.1 a0 (S0.1, (upd (upd (upd (upd S0.2.1 ((82 + (4 * (S0.2.1 4))).toNatClampNeg) v1) (((82 + (4 * (S0.2.1 4))) + 1).toNatClampNeg) v2) (((82 + (4 * (S0.2.1 4))) + 2).toNatClampNeg) v3) (((82 + (4 * (S0.2.1 4))) + 3).toNatClampNeg) v4), S0.2.2.1, S0.2.2.2.1, S0.2.2.2.2.1, S0.2.2.2.2.2.1, S0.2.2.2.2.2.2.1, S0.2.2.2.2.2.2.2.1, S0.2.2.2.2.2.2.2.2.1, S0.2.2.2.2.2.2.2.2.2.1, S0.2.2.2.2.2.2.2.2.2.2.1, S0.2.2.2.2.2.2.2.2.2.2.2.1, S0.2.2.2.2.2.2.2.2.2.2.2.2.1, S0.2.2.2.2.2.2.2.2.2.2.2.2.2)) H := hP
      have hD : va_D A (ce_X6 G.2.1 a0 (S0.1, (upd (upd (upd (upd S0.2.1 ((82 + (4 * (S0.2.1 4))).toNatClampNeg) v1) (((82 + (4 * (S0.2.1 4))) + 1).toNatClampNeg) v2) (((82 + (4 * (S0.2.1 4))) + 2).toNatClampNeg) v3) (((82 + (4 * (S0.2.1 4))) + 3).toNatClampNeg) v4), S0.2.2.1, S0.2.2.2.1, S0.2.2.2.2.1, S0.2.2.2.2.2.1, S0.2.2.2.2.2.2.1, S0.2.2.2.2.2.2.2.1, S0.2.2.2.2.2.2.2.2.1, S0.2.2.2.2.2.2.2.2.2.1, S0.2.2.2.2.2.2.2.2.2.2.1, S0.2.2.2.2.2.2.2.2.2.2.2.1, S0.2.2.2.2.2.2.2.2.2.2.2.2.1, S0.2.2.2.2.2.2.2.2.2.2.2.2.2)) := hD
      refine lv_aload_n hx hb dX6_reading_131 rfl (lv_at hl 2 rfl) ?_
      refine va_get (D := G.1) (ci := 6) (v := .ref a0.2.2.1) (C := RX6) (T := TX6) (N := 14) hx hb hts hinX6 hown hK hP 0 rfl rfl 1 (by decide) lk0 (fun _ h9 => h9) rfl dX6_reading_132 ?_
      refine lv_iconst (v := 4) hx hb dX6_reading_135 (by decide) ?_
      refine lv_dup2_11 hx hb dX6_reading_136 rfl rfl ?_
      refine va_iald hx hb hK hP 2 0 rfl rfl (by decide : inB 4 130) dX6_reading_137 ?_
      refine zl_top (y := (upd (upd (upd (upd S0.2.1 ((82 + (4 * (S0.2.1 4))).toNatClampNeg) v1) (((82 + (4 * (S0.2.1 4))) + 1).toNatClampNeg) v2) (((82 + (4 * (S0.2.1 4))) + 2).toNatClampNeg) v3) (((82 + (4 * (S0.2.1 4))) + 3).toNatClampNeg) v4) 4) rfl ?_
      refine lv_iconst (v := 1) hx hb dX6_reading_138 (by decide) ?_
      refine lv_iadd hx hb dX6_reading_139 ?_
      refine va_iast hx hb hK hP hD hS 2 0 rfl rfl (by decide : inB 4 130) dX6_reading_140 (fun H locs hP hD hS => ?_)
      have hP : va_P G.1 vwCl (ce_X6 G.2.1 a0 (S0.1, (upd (upd (upd (upd (upd S0.2.1 ((82 + (4 * (S0.2.1 4))).toNatClampNeg) v1) (((82 + (4 * (S0.2.1 4))) + 1).toNatClampNeg) v2) (((82 + (4 * (S0.2.1 4))) + 2).toNatClampNeg) v3) (((82 + (4 * (S0.2.1 4))) + 3).toNatClampNeg) v4) 4 (((upd (upd (upd (upd S0.2.1 ((82 + (4 * (S0.2.1 4))).toNatClampNeg) v1) (((82 + (4 * (S0.2.1 4))) + 1).toNatClampNeg) v2) (((82 + (4 * (S0.2.1 4))) + 2).toNatClampNeg) v3) (((82 + (4 * (S0.2.1 4))) + 3).toNatClampNeg) v4) 4) + 1)), S0.2.2.1, S0.2.2.2.1, S0.2.2.2.2.1, S0.2.2.2.2.2.1, S0.2.2.2.2.2.2.1, S0.2.2.2.2.2.2.2.1, S0.2.2.2.2.2.2.2.2.1, S0.2.2.2.2.2.2.2.2.2.1, S0.2.2.2.2.2.2.2.2.2.2.1, S0.2.2.2.2.2.2.2.2.2.2.2.1, S0.2.2.2.2.2.2.2.2.2.2.2.2.1, S0.2.2.2.2.2.2.2.2.2.2.2.2.2)) H := hP
      have hD : va_D A (ce_X6 G.2.1 a0 (S0.1, (upd (upd (upd (upd (upd S0.2.1 ((82 + (4 * (S0.2.1 4))).toNatClampNeg) v1) (((82 + (4 * (S0.2.1 4))) + 1).toNatClampNeg) v2) (((82 + (4 * (S0.2.1 4))) + 2).toNatClampNeg) v3) (((82 + (4 * (S0.2.1 4))) + 3).toNatClampNeg) v4) 4 (((upd (upd (upd (upd S0.2.1 ((82 + (4 * (S0.2.1 4))).toNatClampNeg) v1) (((82 + (4 * (S0.2.1 4))) + 1).toNatClampNeg) v2) (((82 + (4 * (S0.2.1 4))) + 2).toNatClampNeg) v3) (((82 + (4 * (S0.2.1 4))) + 3).toNatClampNeg) v4) 4) + 1)), S0.2.2.1, S0.2.2.2.1, S0.2.2.2.2.1, S0.2.2.2.2.2.1, S0.2.2.2.2.2.2.1, S0.2.2.2.2.2.2.2.1, S0.2.2.2.2.2.2.2.2.1, S0.2.2.2.2.2.2.2.2.2.1, S0.2.2.2.2.2.2.2.2.2.2.1, S0.2.2.2.2.2.2.2.2.2.2.2.1, S0.2.2.2.2.2.2.2.2.2.2.2.2.1, S0.2.2.2.2.2.2.2.2.2.2.2.2.2)) := hD
      refine lv_aload_n hx hb dX6_reading_141 rfl (lv_at hl 2 rfl) ?_
      refine va_get (D := G.1) (ci := 6) (v := .ref a0.2.2.1) (C := RX6) (T := TX6) (N := 14) hx hb hts hinX6 hown hK hP 0 rfl rfl 1 (by decide) lk0 (fun _ h9 => h9) rfl dX6_reading_142 ?_
      refine lv_iconst (v := 4) hx hb dX6_reading_145 (by decide) ?_
      refine va_iald hx hb hK hP 2 0 rfl rfl (by decide : inB 4 130) dX6_reading_146 ?_
      refine zl_top (y := (upd (upd (upd (upd (upd S0.2.1 ((82 + (4 * (S0.2.1 4))).toNatClampNeg) v1) (((82 + (4 * (S0.2.1 4))) + 1).toNatClampNeg) v2) (((82 + (4 * (S0.2.1 4))) + 2).toNatClampNeg) v3) (((82 + (4 * (S0.2.1 4))) + 3).toNatClampNeg) v4) 4 (((upd (upd (upd (upd S0.2.1 ((82 + (4 * (S0.2.1 4))).toNatClampNeg) v1) (((82 + (4 * (S0.2.1 4))) + 1).toNatClampNeg) v2) (((82 + (4 * (S0.2.1 4))) + 2).toNatClampNeg) v3) (((82 + (4 * (S0.2.1 4))) + 3).toNatClampNeg) v4) 4) + 1)) 4) rfl ?_
      exact fin _ _ _ _ _ _ hf hP hD hS dX6_reading_147
    · replace hf := ob_neg c1 hf
      refine lv_aload_n hx hb dX6_reading_72 rfl (lv_at hl 1 rfl) ?_
      refine lv_iload hx hb dX6_reading_73 (lv_at hl 0 rfl) ?_
      obtain ⟨r6, hr6, hf⟩ := ob_bind hf
      have hFc := va_free (wc := ce_X6 G.2.1 a0 S0) hD hS hA [0, 1, 2, 3, 4, 5, 6, 7, 8, 9] rfl
      refine zc_wr (cf := (fun u => ce_X6 G.2.1 a0 u)) (ws' := ce_X6 G.2.1 a0 r6.2) (va_runV (As := [.int w0]) (rest := []) ⟨hx, hb, hml, hown, hts⟩ (c_X6_refuse l G a0 H.size S0 w0 _ hr6) (cwV 1 hts gX6_reading_X6_refuse rfl rfl rfl (by decide +kernel) ⟨Nat.le_of_ble_eq_true rfl, Nat.le_of_ble_eq_true rfl⟩) ⟨PcM.blind, va_recv hK hP (ci := 6) (q0 := 0) rfl rfl, PcM.ok hP hD hK hE hS hFc⟩ rfl rfl hl.1 rfl (lv_room (Nat.le_of_ble_eq_true rfl)) dX6_reading_75 ⟨Nat.le_refl _, Nat.le_refl _⟩) hP hD hS hA [0, 1, 2, 3, 4, 5, 6, 7, 8, 9] [] [0, 1, 2, 3, 4, 5, 6, 7, 8, 9] rfl rfl (by decide) (by decide) (by decide) rfl (fun H locs hP hD hS => ?_)
      exact fin _ _ _ _ _ _ hf hP hD hS dX6_reading_78
  have blk16 : ∀ (S0 : ST_X6) (v1 : Int32) (v2 : Int32) (v3 : Int32) (v4 : Int32), f_X6_reading_b16 S0 v1 v2 v3 v4 = some out → ∀ (H : Heap) (locs : List Loc), va_P G.1 vwCl (ce_X6 G.2.1 a0 S0) H → va_D A (ce_X6 G.2.1 a0 S0) → va_S A s.heap H locs → ∀ (ls : Array Slot), lv_has ls 7 [(0, .ref a0.1), (1, .int v1), (2, .int v2), (3, .int v3), (4, .int v4)] → W p l e (headSpec wsX6_reading rm_X6_reading).room s m args below meth c H locs 0 0 Q (F0 m 16 ls []) := by
    intro S0 v1 v2 v3 v4 hf H locs hP hD hS ls hl
    rw [f_X6_reading_b16] at hf
    refine lv_iconst (v := (-1)) hx hb dX6_reading_16 (by decide) ?_
    refine lv_goto (tgt := 65) hx hb dX6_reading_17 (by decide) ?_
    exact blk65 _ _ _ _ _ _ hf _ _ hP hD hS _ (lv_sub hl [0, 1, 2, 3, 4] rfl)
  have blk30 : ∀ (S0 : ST_X6) (v1 : Int32) (v2 : Int32) (v3 : Int32) (v4 : Int32), f_X6_reading_b30 S0 v1 v2 v3 v4 = some out → ∀ (H : Heap) (locs : List Loc), va_P G.1 vwCl (ce_X6 G.2.1 a0 S0) H → va_D A (ce_X6 G.2.1 a0 S0) → va_S A s.heap H locs → ∀ (ls : Array Slot), lv_has ls 7 [(0, .ref a0.1), (1, .int v1), (2, .int v2), (3, .int v3), (4, .int v4)] → W p l e (headSpec wsX6_reading rm_X6_reading).room s m args below meth c H locs 0 0 Q (F0 m 30 ls []) := by
    intro S0 v1 v2 v3 v4 hf H locs hP hD hS ls hl
    rw [f_X6_reading_b30] at hf
    refine lv_bipush (v := (-4)) hx hb dX6_reading_30 (by decide) ?_
    refine lv_goto (tgt := 65) hx hb dX6_reading_32 (by decide) ?_
    exact blk65 _ _ _ _ _ _ hf _ _ hP hD hS _ (lv_sub hl [0, 1, 2, 3, 4] rfl)
  have blk59 : ∀ (S0 : ST_X6) (v1 : Int32) (v2 : Int32) (v3 : Int32) (v4 : Int32), f_X6_reading_b59 S0 v1 v2 v3 v4 = some out → ∀ (H : Heap) (locs : List Loc), va_P G.1 vwCl (ce_X6 G.2.1 a0 S0) H → va_D A (ce_X6 G.2.1 a0 S0) → va_S A s.heap H locs → ∀ (ls : Array Slot), lv_has ls 7 [(0, .ref a0.1), (1, .int v1), (2, .int v2), (3, .int v3), (4, .int v4)] → W p l e (headSpec wsX6_reading rm_X6_reading).room s m args below meth c H locs 0 0 Q (F0 m 59 ls []) := by
    intro S0 v1 v2 v3 v4 hf H locs hP hD hS ls hl
    rw [f_X6_reading_b59] at hf
    refine lv_bipush (v := (-6)) hx hb dX6_reading_59 (by decide) ?_
    refine lv_goto (tgt := 65) hx hb dX6_reading_61 (by decide) ?_
    exact blk65 _ _ _ _ _ _ hf _ _ hP hD hS _ (lv_sub hl [0, 1, 2, 3, 4] rfl)
  have go : ∀ (H : Heap) (locs : List Loc), va_P G.1 vwCl (ce_X6 G.2.1 a0 S0) H → va_D A (ce_X6 G.2.1 a0 S0) → va_S A s.heap H locs → ∀ (ls : Array Slot), lv_has ls 7 [(0, .ref a0.1), (1, .int p1), (2, .int p2), (3, .int p3), (4, .int p4)] → W p l e (headSpec wsX6_reading rm_X6_reading).room s m args below meth c H locs 0 0 Q (F0 m 0 ls []) := by
    intro H locs hP hD hS ls hl
    refine lv_iload_n hx hb dX6_reading_0 rfl (lv_at hl 2 rfl) ?_
    obtain ⟨r7, hr7, hf⟩ := ob_bind hf
    have hPc : va_P G.1 vwCl (([] : va_W)) H := hP.sub [] rfl
    have hDc : va_D A (([] : va_W)) := hD.sub [] (by decide) rfl
    have hFc := va_free (wc := ([] : va_W)) hD hS hA [] rfl
    refine zc_ro (va_runS (As := [.int p2]) (rest := []) ⟨hx, hb, hml, hown, hts⟩ (c_X6_isPlace l G H.size p2 _ hr7) (va_cwS 1 hts gX6_reading_X6_isPlace rfl rfl rfl (by decide +kernel) ⟨Nat.le_of_ble_eq_true rfl, Nat.le_of_ble_eq_true rfl⟩) ⟨PcM.blind, PcM.ok hPc hDc hK hE hS hFc⟩ rfl rfl hl.1 rfl (lv_room (Nat.le_of_ble_eq_true rfl)) dX6_reading_1 ⟨Nat.le_refl _, Nat.le_refl _⟩) hP hD hS hA [] rfl (fun H locs hP hS => ?_)
    refine lv_if_eq (tgt := 16) hx hb dX6_reading_4 (by decide) (fun c8 => ?_) (fun c8 => ?_)
    · replace hf := ob_pos c8 hf
      exact blk16 _ _ _ _ _ hf _ _ hP hD hS _ (lv_sub hl [0, 1, 2, 3, 4] rfl)
    · replace hf := ob_neg c8 hf
      refine lv_iload hx hb dX6_reading_7 (lv_at hl 4 rfl) ?_
      refine lv_iconst (v := 4) hx hb dX6_reading_9 (by decide) ?_
      obtain ⟨r9, hr9, hf⟩ := ob_bind hf
      have hPc : va_P G.1 vwCl (([] : va_W)) H := hP.sub [] rfl
      have hDc : va_D A (([] : va_W)) := hD.sub [] (by decide) rfl
      have hFc := va_free (wc := ([] : va_W)) hD hS hA [] rfl
      refine zc_ro (va_runS (As := [.int p4, .int 4]) (rest := []) ⟨hx, hb, hml, hown, hts⟩ (c_X6_isIn l G H.size p4 4 _ hr9) (va_cwS 2 hts gX6_reading_X6_isIn rfl rfl rfl (by decide +kernel) ⟨Nat.le_of_ble_eq_true rfl, Nat.le_of_ble_eq_true rfl⟩) ⟨PcM.blind, PcM.ok hPc hDc hK hE hS hFc⟩ rfl rfl hl.1 rfl (lv_room (Nat.le_of_ble_eq_true rfl)) dX6_reading_10 ⟨Nat.le_refl _, Nat.le_refl _⟩) hP hD hS hA [] rfl (fun H locs hP hS => ?_)
      refine lv_if_ne (tgt := 20) hx hb dX6_reading_13 (by decide) (fun c10 => ?_) (fun c10 => ?_)
      · replace hf := ob_neg c10 hf
        refine lv_iload_n hx hb dX6_reading_20 rfl (lv_at hl 1 rfl) ?_
        refine lv_if_lt (tgt := 30) hx hb dX6_reading_21 (by decide) (fun c11 => ?_) (fun c11 => ?_)
        · replace hf := ob_pos c11 hf
          exact blk30 _ _ _ _ _ hf _ _ hP hD hS _ (lv_sub hl [0, 1, 2, 3, 4] rfl)
        · replace hf := ob_neg c11 hf
          refine lv_iload_n hx hb dX6_reading_24 rfl (lv_at hl 3 rfl) ?_
          refine lv_bipush (v := 10) hx hb dX6_reading_25 (by decide) ?_
          refine lv_icmp_ge (tgt := 35) hx hb dX6_reading_27 (by decide) (fun c12 => ?_) (fun c12 => ?_)
          · replace hf := ob_pos c12 hf
            refine lv_iload_n hx hb dX6_reading_35 rfl (lv_at hl 1 rfl) ?_
            refine lv_sipush (v := 1100) hx hb dX6_reading_36 (by decide) ?_
            refine lv_icmp_gt (tgt := 59) hx hb dX6_reading_39 (by decide) (fun c13 => ?_) (fun c13 => ?_)
            · replace hf := ob_pos c13 hf
              exact blk59 _ _ _ _ _ hf _ _ hP hD hS _ (lv_sub hl [0, 1, 2, 3, 4] rfl)
            · replace hf := ob_neg c13 hf
              refine lv_iload_n hx hb dX6_reading_42 rfl (lv_at hl 3 rfl) ?_
              refine lv_bipush (v := 99) hx hb dX6_reading_43 (by decide) ?_
              refine lv_icmp_gt (tgt := 59) hx hb dX6_reading_45 (by decide) (fun c14 => ?_) (fun c14 => ?_)
              · replace hf := ob_pos c14 hf
                exact blk59 _ _ _ _ _ hf _ _ hP hD hS _ (lv_sub hl [0, 1, 2, 3, 4] rfl)
              · replace hf := ob_neg c14 hf
                refine lv_aload_n hx hb dX6_reading_48 rfl (lv_at hl 0 rfl) ?_
                refine va_get (D := G.1) (ci := 6) (v := .ref a0.2.2.1) (C := RX6) (T := TX6) (N := 14) hx hb hts hinX6 hown hK hP 0 rfl rfl 1 (by decide) lk0 (fun _ h9 => h9) rfl dX6_reading_49 ?_
                refine lv_iconst (v := 4) hx hb dX6_reading_52 (by decide) ?_
                refine va_iald hx hb hK hP 2 0 rfl rfl (by decide : inB 4 130) dX6_reading_53 ?_
                refine zl_top (y := S0.2.1 4) rfl ?_
                refine lv_bipush (v := 12) hx hb dX6_reading_54 (by decide) ?_
                refine lv_icmp_ne (tgt := 64) hx hb dX6_reading_56 (by decide) (fun c15 => ?_) (fun c15 => ?_)
                · replace hf := ob_neg c15 hf
                  refine lv_iconst (v := 0) hx hb dX6_reading_64 (by decide) ?_
                  exact blk65 _ _ _ _ _ _ hf _ _ hP hD hS _ (lv_sub hl [0, 1, 2, 3, 4] rfl)
                · replace hf := ob_pos c15 hf
                  exact blk59 _ _ _ _ _ hf _ _ hP hD hS _ (lv_sub hl [0, 1, 2, 3, 4] rfl)
          · replace hf := ob_neg c12 hf
            exact blk30 _ _ _ _ _ hf _ _ hP hD hS _ (lv_sub hl [0, 1, 2, 3, 4] rfl)
      · replace hf := ob_pos c10 hf
        exact blk16 _ _ _ _ _ hf _ _ hP hD hS _ (lv_sub hl [0, 1, 2, 3, 4] rfl)
  exact go _ _ hP hD hS _ hl
abbrev rm_X6_forget : Room := { frames := 2, cells := 0, slots := 0, locals := 45 }
set_option maxHeartbeats 4000000 in
set_option maxRecDepth 100000 in
theorem c_X6_forget (l : Launch) (G : zG) (a0 : AT_X6) (sz : Nat) (S0 : ST_X6) (out : Int32 × ST_X6) (hf : f_X6_forget S0 = some out) : Met l yX6_forget wsX6_forget rm_X6_forget (PcM G (ce_X6 G.2.1 a0 S0) [.ref a0.1] sz) (QWr G (fun u => ce_X6 G.2.1 a0 u) out (va_A (ce_X6 G.2.1 a0 S0) sz)) 0 0 (va_A (ce_X6 G.2.1 a0 S0) sz) := by
  rw [f_X6_forget] at hf
  refine Met.ofW (cc := cX6_forget) (maxL := 1) (ret := (some .int)) (by decide) rfl ?_
  intro p e s m args below meth c s₁ B hml hv
  obtain ⟨hargs, hsz, hP, hK, hD0, hE⟩ := hv
  have hx := B.exec
  have hb := B.bytes
  have hr := B.returns
  have hts := atoms_spec (ws := wsX6_forget) B.pre
  have hown : s.vm.findClass RX6 = some m.cls := findClass_of_methodNamed B.named
  have hlocks := B.notSynchronized
  subst hsz
  have hD := hD0.self (sz := s.heap.size)
  generalize hAe : va_A (ce_X6 G.2.1 a0 S0) s.heap.size = A at hD hE ⊢
  have hA : ∀ q : Nat, s.heap.size ≤ q → A q := fun q h => by rw [← hAe]; exact Or.inr h
  have hS : va_S A s.heap s.heap [] := va_S.rf
  have hl := lv_entry ([.ref a0.1]) (n := 1) (Nat.le_of_ble_eq_true rfl)
  have hent : entryFrame m args 1 = F0 m 0 ((lg_sl ([.ref a0.1]) ++ List.replicate (1 - (lg_sl ([.ref a0.1])).length) Slot.unset).toArray) [] := by rw [hargs, lg_entry_eq]
  rw [hent]
  clear hent
  generalize (lg_sl ([.ref a0.1]) ++ List.replicate (1 - (lg_sl ([.ref a0.1])).length) Slot.unset).toArray = ls at hl ⊢
  have hl : lv_has ls 1 [(0, .ref a0.1)] := hl
  have lk0 := hts (Cond.fieldLink RX6 13 "EnginesOnListModel" "s" "[I") (List.mem_of_getElem? (i := 1) rfl)
  have hinX6 : ∀ w ∈ wsX60, w ∈ wsX6_forget := by decide +kernel
  have fin : ∀ (pc : Nat) (v : Int32) (u : ST_X6) (H : Heap) (locs : List Loc) (ls : Array Slot), some (v, u) = some out → va_P G.1 vwCl (ce_X6 G.2.1 a0 u) H → va_D A (ce_X6 G.2.1 a0 u) → va_S A s.heap H locs → decode cX6_forget pc = .ok (.ireturn, 1) → W p l e (headSpec wsX6_forget rm_X6_forget).room s m args below meth c H locs 0 0 (MQ below (QWr G (fun u => ce_X6 G.2.1 a0 u) out A) args s 0 0 A) (F0 m pc ls [.int v]) := fun pc v u H locs ls ho hP hD hS hd => W.iret (v := v) hx hb hr (fun t ht hW => ⟨⟨v, u, rfl, ob_pair ho, by first | (rw [ht]; exact hP) | (dsimp only; rw [ht]; exact hP), hD⟩, hS.F ht⟩) hS.2.2 hd
  generalize MQ below (QWr G (fun u => ce_X6 G.2.1 a0 u) out A) args s 0 0 A = Q at fin ⊢
  have go : ∀ (H : Heap) (locs : List Loc), va_P G.1 vwCl (ce_X6 G.2.1 a0 S0) H → va_D A (ce_X6 G.2.1 a0 S0) → va_S A s.heap H locs → ∀ (ls : Array Slot), lv_has ls 1 [(0, .ref a0.1)] → W p l e (headSpec wsX6_forget rm_X6_forget).room s m args below meth c H locs 0 0 Q (F0 m 0 ls []) := by
    intro H locs hP hD hS ls hl
    refine lv_aload_n hx hb dX6_forget_0 rfl (lv_at hl 0 rfl) ?_
    refine va_get (D := G.1) (ci := 6) (v := .ref a0.2.2.1) (C := RX6) (T := TX6) (N := 14) hx hb hts hinX6 hown hK hP 0 rfl rfl 1 (by decide) lk0 (fun _ h9 => h9) rfl dX6_forget_1 ?_
    refine lv_iconst (v := 4) hx hb dX6_forget_4 (by decide) ?_
    refine va_iald hx hb hK hP 2 0 rfl rfl (by decide : inB 4 130) dX6_forget_5 ?_
    refine zl_top (y := S0.2.1 4) rfl ?_
    refine lv_if_ne (tgt := 16) hx hb dX6_forget_6 (by decide) (fun c1 => ?_) (fun c1 => ?_)
    · replace hf := ob_neg c1 hf
      refine lv_aload_n hx hb dX6_forget_16 rfl (lv_at hl 0 rfl) ?_
      refine va_get (D := G.1) (ci := 6) (v := .ref a0.2.2.1) (C := RX6) (T := TX6) (N := 14) hx hb hts hinX6 hown hK hP 0 rfl rfl 1 (by decide) lk0 (fun _ h9 => h9) rfl dX6_forget_17 ?_
      refine lv_iconst (v := 4) hx hb dX6_forget_20 (by decide) ?_
      refine lv_dup2_11 hx hb dX6_forget_21 rfl rfl ?_
      refine va_iald hx hb hK hP 2 0 rfl rfl (by decide : inB 4 130) dX6_forget_22 ?_
      refine zl_top (y := S0.2.1 4) rfl ?_
      refine lv_iconst (v := 1) hx hb dX6_forget_23 (by decide) ?_
      refine lv_isub hx hb dX6_forget_24 ?_
      refine va_iast hx hb hK hP hD hS 2 0 rfl rfl (by decide : inB 4 130) dX6_forget_25 (fun H locs hP hD hS => ?_)
      have hP : va_P G.1 vwCl (ce_X6 G.2.1 a0 (S0.1, (upd S0.2.1 4 ((S0.2.1 4) - 1)), S0.2.2.1, S0.2.2.2.1, S0.2.2.2.2.1, S0.2.2.2.2.2.1, S0.2.2.2.2.2.2.1, S0.2.2.2.2.2.2.2.1, S0.2.2.2.2.2.2.2.2.1, S0.2.2.2.2.2.2.2.2.2.1, S0.2.2.2.2.2.2.2.2.2.2.1, S0.2.2.2.2.2.2.2.2.2.2.2.1, S0.2.2.2.2.2.2.2.2.2.2.2.2.1, S0.2.2.2.2.2.2.2.2.2.2.2.2.2)) H := hP
      have hD : va_D A (ce_X6 G.2.1 a0 (S0.1, (upd S0.2.1 4 ((S0.2.1 4) - 1)), S0.2.2.1, S0.2.2.2.1, S0.2.2.2.2.1, S0.2.2.2.2.2.1, S0.2.2.2.2.2.2.1, S0.2.2.2.2.2.2.2.1, S0.2.2.2.2.2.2.2.2.1, S0.2.2.2.2.2.2.2.2.2.1, S0.2.2.2.2.2.2.2.2.2.2.1, S0.2.2.2.2.2.2.2.2.2.2.2.1, S0.2.2.2.2.2.2.2.2.2.2.2.2.1, S0.2.2.2.2.2.2.2.2.2.2.2.2.2)) := hD
      refine lv_aload_n hx hb dX6_forget_26 rfl (lv_at hl 0 rfl) ?_
      refine va_get (D := G.1) (ci := 6) (v := .ref a0.2.2.1) (C := RX6) (T := TX6) (N := 14) hx hb hts hinX6 hown hK hP 0 rfl rfl 1 (by decide) lk0 (fun _ h9 => h9) rfl dX6_forget_27 ?_
      refine lv_iconst (v := 4) hx hb dX6_forget_30 (by decide) ?_
      refine va_iald hx hb hK hP 2 0 rfl rfl (by decide : inB 4 130) dX6_forget_31 ?_
      refine zl_top (y := (upd S0.2.1 4 ((S0.2.1 4) - 1)) 4) rfl ?_
      exact fin _ _ _ _ _ _ hf hP hD hS dX6_forget_32
    · replace hf := ob_pos c1 hf
      refine lv_aload_n hx hb dX6_forget_9 rfl (lv_at hl 0 rfl) ?_
      refine lv_bipush (v := (-3)) hx hb dX6_forget_10 (by decide) ?_
      obtain ⟨r2, hr2, hf⟩ := ob_bind hf
      have hFc := va_free (wc := ce_X6 G.2.1 a0 S0) hD hS hA [0, 1, 2, 3, 4, 5, 6, 7, 8, 9] rfl
      refine zc_wr (cf := (fun u => ce_X6 G.2.1 a0 u)) (ws' := ce_X6 G.2.1 a0 r2.2) (va_runV (As := [.int (-3)]) (rest := []) ⟨hx, hb, hml, hown, hts⟩ (c_X6_refuse l G a0 H.size S0 (-3) _ hr2) (cwV 1 hts gX6_forget_X6_refuse rfl rfl rfl (by decide +kernel) ⟨Nat.le_of_ble_eq_true rfl, Nat.le_of_ble_eq_true rfl⟩) ⟨PcM.blind, va_recv hK hP (ci := 6) (q0 := 0) rfl rfl, PcM.ok hP hD hK hE hS hFc⟩ rfl rfl hl.1 rfl (lv_room (Nat.le_of_ble_eq_true rfl)) dX6_forget_12 ⟨Nat.le_refl _, Nat.le_refl _⟩) hP hD hS hA [0, 1, 2, 3, 4, 5, 6, 7, 8, 9] [] [0, 1, 2, 3, 4, 5, 6, 7, 8, 9] rfl rfl (by decide) (by decide) (by decide) rfl (fun H locs hP hD hS => ?_)
      exact fin _ _ _ _ _ _ hf hP hD hS dX6_forget_15
  exact go _ _ hP hD hS _ hl
abbrev rm_X6_isRead : Room := { frames := 1, cells := 0, slots := 0, locals := 24 }
set_option maxHeartbeats 4000000 in
set_option maxRecDepth 100000 in
theorem c_X6_isRead (l : Launch) (G : zG) (sz : Nat) (p0 : Int32) (p1 : Int32) (out : Int32) (hf : f_X6_isRead p0 p1 = some out) : Met l yX6_isRead wsX6_isRead rm_X6_isRead (PcM G (([] : va_W)) [.int p0, .int p1] sz) (QRo G (([] : va_W)) out (va_A (([] : va_W)) sz)) 0 0 (va_A (([] : va_W)) sz) := by
  rw [f_X6_isRead] at hf
  refine Met.ofW (cc := cX6_isRead) (maxL := 2) (ret := (some .boolean)) (by decide) rfl ?_
  intro p e s m args below meth c s₁ B hml hv
  obtain ⟨hargs, hsz, hP, hK, hD0, hE⟩ := hv
  have hx := B.exec
  have hb := B.bytes
  have hr := B.returns
  have hts := atoms_spec (ws := wsX6_isRead) B.pre
  have hown : s.vm.findClass RX6 = some m.cls := findClass_of_methodNamed B.named
  have hlocks := B.notSynchronized
  subst hsz
  have hD := hD0.self (sz := s.heap.size)
  generalize hAe : va_A (([] : va_W)) s.heap.size = A at hD hE ⊢
  have hA : ∀ q : Nat, s.heap.size ≤ q → A q := fun q h => by rw [← hAe]; exact Or.inr h
  have hS : va_S A s.heap s.heap [] := va_S.rf
  have hl := lv_entry ([.int p0, .int p1]) (n := 2) (Nat.le_of_ble_eq_true rfl)
  have hent : entryFrame m args 2 = F0 m 0 ((lg_sl ([.int p0, .int p1]) ++ List.replicate (2 - (lg_sl ([.int p0, .int p1])).length) Slot.unset).toArray) [] := by rw [hargs, lg_entry_eq]
  rw [hent]
  clear hent
  generalize (lg_sl ([.int p0, .int p1]) ++ List.replicate (2 - (lg_sl ([.int p0, .int p1])).length) Slot.unset).toArray = ls at hl ⊢
  have hl : lv_has ls 2 [(0, .int p0), (1, .int p1)] := hl
  have fin : ∀ (pc : Nat) (v : Int32) (H : Heap) (locs : List Loc) (ls : Array Slot), some v = some out → narrow .boolean (.int v) = .int v → va_P G.1 vwCl (([] : va_W)) H → va_D A (([] : va_W)) → va_S A s.heap H locs → decode cX6_isRead pc = .ok (.ireturn, 1) → W p l e (headSpec wsX6_isRead rm_X6_isRead).room s m args below meth c H locs 0 0 (MQ below (QRo G (([] : va_W)) out A) args s 0 0 A) (F0 m pc ls [.int v]) := fun pc v H locs ls ho hn hP hD hS hd => W.zret (v := v) hx hb hr hn (fun t ht hW => ⟨⟨v, (), rfl, Option.some.inj ho, by first | (rw [ht]; exact hP) | (dsimp only; rw [ht]; exact hP)⟩, hS.F ht⟩) hS.2.2 hd
  generalize MQ below (QRo G (([] : va_W)) out A) args s 0 0 A = Q at fin ⊢
  have blk27 : f_X6_isRead_b27 = some out → ∀ (H : Heap) (locs : List Loc), va_P G.1 vwCl (([] : va_W)) H → va_D A (([] : va_W)) → va_S A s.heap H locs → ∀ (ls : Array Slot), lv_has ls 2 [] → W p l e (headSpec wsX6_isRead rm_X6_isRead).room s m args below meth c H locs 0 0 Q (F0 m 27 ls []) := by
    intro hf H locs hP hD hS ls hl
    rw [f_X6_isRead_b27] at hf
    refine lv_iconst (v := 1) hx hb dX6_isRead_27 (by decide) ?_
    refine lv_goto (tgt := 32) hx hb dX6_isRead_28 (by decide) ?_
    exact fin _ _ _ _ _ hf rfl hP hD hS dX6_isRead_32
  have blk31 : f_X6_isRead_b31 = some out → ∀ (H : Heap) (locs : List Loc), va_P G.1 vwCl (([] : va_W)) H → va_D A (([] : va_W)) → va_S A s.heap H locs → ∀ (ls : Array Slot), lv_has ls 2 [] → W p l e (headSpec wsX6_isRead rm_X6_isRead).room s m args below meth c H locs 0 0 Q (F0 m 31 ls []) := by
    intro hf H locs hP hD hS ls hl
    rw [f_X6_isRead_b31] at hf
    refine lv_iconst (v := 0) hx hb dX6_isRead_31 (by decide) ?_
    exact fin _ _ _ _ _ hf rfl hP hD hS dX6_isRead_32
  have blk16 : ∀ (v0 : Int32) (v1 : Int32), f_X6_isRead_b16 v0 v1 = some out → ∀ (H : Heap) (locs : List Loc), va_P G.1 vwCl (([] : va_W)) H → va_D A (([] : va_W)) → va_S A s.heap H locs → ∀ (ls : Array Slot), lv_has ls 2 [(0, .int v0), (1, .int v1)] → W p l e (headSpec wsX6_isRead rm_X6_isRead).room s m args below meth c H locs 0 0 Q (F0 m 16 ls []) := by
    intro v0 v1 hf H locs hP hD hS ls hl
    rw [f_X6_isRead_b16] at hf
    refine lv_iload_n hx hb dX6_isRead_16 rfl (lv_at hl 0 rfl) ?_
    refine lv_bipush (v := 8) hx hb dX6_isRead_17 (by decide) ?_
    refine lv_icmp_ne (tgt := 31) hx hb dX6_isRead_19 (by decide) (fun c1 => ?_) (fun c1 => ?_)
    · replace hf := ob_neg c1 hf
      exact blk31  hf _ _ hP hD hS _ (lv_sub hl [] rfl)
    · replace hf := ob_pos c1 hf
      refine lv_iload_n hx hb dX6_isRead_22 rfl (lv_at hl 1 rfl) ?_
      refine lv_iconst (v := 3) hx hb dX6_isRead_23 (by decide) ?_
      refine lv_icmp_ne (tgt := 31) hx hb dX6_isRead_24 (by decide) (fun c2 => ?_) (fun c2 => ?_)
      · replace hf := ob_neg c2 hf
        exact blk31  hf _ _ hP hD hS _ (lv_sub hl [] rfl)
      · replace hf := ob_pos c2 hf
        exact blk27  hf _ _ hP hD hS _ (lv_sub hl [] rfl)
  have go : ∀ (H : Heap) (locs : List Loc), va_P G.1 vwCl (([] : va_W)) H → va_D A (([] : va_W)) → va_S A s.heap H locs → ∀ (ls : Array Slot), lv_has ls 2 [(0, .int p0), (1, .int p1)] → W p l e (headSpec wsX6_isRead rm_X6_isRead).room s m args below meth c H locs 0 0 Q (F0 m 0 ls []) := by
    intro H locs hP hD hS ls hl
    refine lv_iload_n hx hb dX6_isRead_0 rfl (lv_at hl 0 rfl) ?_
    refine lv_iload_n hx hb dX6_isRead_1 rfl (lv_at hl 1 rfl) ?_
    refine lv_icmp_eq (tgt := 27) hx hb dX6_isRead_2 (by decide) (fun c3 => ?_) (fun c3 => ?_)
    · replace hf := ob_pos c3 hf
      exact blk27  hf _ _ hP hD hS _ (lv_sub hl [] rfl)
    · replace hf := ob_neg c3 hf
      refine lv_iload_n hx hb dX6_isRead_5 rfl (lv_at hl 0 rfl) ?_
      refine lv_iconst (v := 3) hx hb dX6_isRead_6 (by decide) ?_
      refine lv_icmp_ne (tgt := 16) hx hb dX6_isRead_7 (by decide) (fun c4 => ?_) (fun c4 => ?_)
      · replace hf := ob_neg c4 hf
        exact blk16 _ _ hf _ _ hP hD hS _ (lv_sub hl [0, 1] rfl)
      · replace hf := ob_pos c4 hf
        refine lv_iload_n hx hb dX6_isRead_10 rfl (lv_at hl 1 rfl) ?_
        refine lv_bipush (v := 8) hx hb dX6_isRead_11 (by decide) ?_
        refine lv_icmp_eq (tgt := 27) hx hb dX6_isRead_13 (by decide) (fun c5 => ?_) (fun c5 => ?_)
        · replace hf := ob_pos c5 hf
          exact blk27  hf _ _ hP hD hS _ (lv_sub hl [] rfl)
        · replace hf := ob_neg c5 hf
          exact blk16 _ _ hf _ _ hP hD hS _ (lv_sub hl [0, 1] rfl)
  exact go _ _ hP hD hS _ hl
abbrev rm_X6_fittingOf : Room := { frames := 5, cells := 0, slots := 0, locals := 116 }
set_option maxHeartbeats 4000000 in
set_option maxRecDepth 100000 in
theorem c_X6_fittingOf (l : Launch) (G : zG) (a0 : AT_X6) (sz : Nat) (S0 : ST_X6) (p1 : Int32) (p2 : Int32) (out : Int32) (hf : f_X6_fittingOf S0 p1 p2 = some out) : Met l yX6_fittingOf wsX6_fittingOf rm_X6_fittingOf (PcM G (ce_X6 G.2.1 a0 S0) [.ref a0.1, .int p1, .int p2] sz) (QRo G (ce_X6 G.2.1 a0 S0) out (va_A (ce_X6 G.2.1 a0 S0) sz)) 0 0 (va_A (ce_X6 G.2.1 a0 S0) sz) := by
  rw [f_X6_fittingOf] at hf
  refine Met.ofW (cc := cX6_fittingOf) (maxL := 9) (ret := (some .int)) (by decide) rfl ?_
  intro p e s m args below meth c s₁ B hml hv
  obtain ⟨hargs, hsz, hP, hK, hD0, hE⟩ := hv
  have hx := B.exec
  have hb := B.bytes
  have hr := B.returns
  have hts := atoms_spec (ws := wsX6_fittingOf) B.pre
  have hown : s.vm.findClass RX6 = some m.cls := findClass_of_methodNamed B.named
  have hlocks := B.notSynchronized
  subst hsz
  have hD := hD0.self (sz := s.heap.size)
  generalize hAe : va_A (ce_X6 G.2.1 a0 S0) s.heap.size = A at hD hE ⊢
  have hA : ∀ q : Nat, s.heap.size ≤ q → A q := fun q h => by rw [← hAe]; exact Or.inr h
  have hS : va_S A s.heap s.heap [] := va_S.rf
  have hl := lv_entry ([.ref a0.1, .int p1, .int p2]) (n := 9) (Nat.le_of_ble_eq_true rfl)
  have hent : entryFrame m args 9 = F0 m 0 ((lg_sl ([.ref a0.1, .int p1, .int p2]) ++ List.replicate (9 - (lg_sl ([.ref a0.1, .int p1, .int p2])).length) Slot.unset).toArray) [] := by rw [hargs, lg_entry_eq]
  rw [hent]
  clear hent
  generalize (lg_sl ([.ref a0.1, .int p1, .int p2]) ++ List.replicate (9 - (lg_sl ([.ref a0.1, .int p1, .int p2])).length) Slot.unset).toArray = ls at hl ⊢
  have hl : lv_has ls 9 [(0, .ref a0.1), (1, .int p1), (2, .int p2)] := hl
  have lk0 := hts (Cond.fieldLink RX6 13 "EnginesOnListModel" "s" "[I") (List.mem_of_getElem? (i := 1) rfl)
  have hinX6 : ∀ w ∈ wsX60, w ∈ wsX6_fittingOf := by decide +kernel
  have fin : ∀ (pc : Nat) (v : Int32) (H : Heap) (locs : List Loc) (ls : Array Slot), some v = some out → va_P G.1 vwCl (ce_X6 G.2.1 a0 S0) H → va_D A (ce_X6 G.2.1 a0 S0) → va_S A s.heap H locs → decode cX6_fittingOf pc = .ok (.ireturn, 1) → W p l e (headSpec wsX6_fittingOf rm_X6_fittingOf).room s m args below meth c H locs 0 0 (MQ below (QRo G (ce_X6 G.2.1 a0 S0) out A) args s 0 0 A) (F0 m pc ls [.int v]) := fun pc v H locs ls ho hP hD hS hd => W.iret (v := v) hx hb hr (fun t ht hW => ⟨⟨v, (), rfl, Option.some.inj ho, by first | (rw [ht]; exact hP) | (dsimp only; rw [ht]; exact hP)⟩, hS.F ht⟩) hS.2.2 hd
  generalize MQ below (QRo G (ce_X6 G.2.1 a0 S0) out A) args s 0 0 A = Q at fin ⊢
  have blk31 : ∀ (fu31 : Nat), ∀ (v2 : Int32) (v3 : Int32) (v4 : Int32) (v5 : Int32) (v6 : Int32), f_X6_fittingOf_b31 S0 fu31 v2 v3 v4 v5 v6 = some out → ∀ (H : Heap) (locs : List Loc), va_P G.1 vwCl (ce_X6 G.2.1 a0 S0) H → va_D A (ce_X6 G.2.1 a0 S0) → va_S A s.heap H locs → ∀ (ls : Array Slot), lv_has ls 9 [(0, .ref a0.1), (2, .int v2), (3, .int v3), (4, .int v4), (5, .int v5), (6, .int v6)] → W p l e (headSpec wsX6_fittingOf rm_X6_fittingOf).room s m args below meth c H locs 0 0 Q (F0 m 31 ls []) := by
    intro fu31
    induction fu31 with
    | zero => intro v2 v3 v4 v5 v6 hf; exact ob_none hf
    | succ fu31 ih31 =>
      intro v2 v3 v4 v5 v6 hf H locs hP hD hS ls hl
      rw [f_X6_fittingOf_b31] at hf
      have blk133 : ∀ (v2 : Int32) (v3 : Int32) (v4 : Int32) (v5 : Int32) (v6 : Int32), f_X6_fittingOf_b133 S0 (f_X6_fittingOf_b31 S0 fu31) v2 v3 v4 v5 v6 = some out → ∀ (H : Heap) (locs : List Loc), va_P G.1 vwCl (ce_X6 G.2.1 a0 S0) H → va_D A (ce_X6 G.2.1 a0 S0) → va_S A s.heap H locs → ∀ (ls : Array Slot), lv_has ls 9 [(0, .ref a0.1), (2, .int v2), (3, .int v3), (4, .int v4), (5, .int v5), (6, .int v6)] → W p l e (headSpec wsX6_fittingOf rm_X6_fittingOf).room s m args below meth c H locs 0 0 Q (F0 m 133 ls []) := by
        intro v2 v3 v4 v5 v6 hf H locs hP hD hS ls hl
        rw [f_X6_fittingOf_b133] at hf
        refine lv_iinc (v := v6 + 1) (lv' := [(6, .int (v6 + 1)), (0, .ref a0.1), (2, .int v2), (3, .int v3), (4, .int v4), (5, .int v5)]) hx hb dX6_fittingOf_133 hl (k := 5) rfl rfl (by decide) rfl (fun ls hl => ?_)
        refine lv_goto (tgt := 31) hx hb dX6_fittingOf_136 (by decide) ?_
        exact ih31 _ _ _ _ _ hf _ _ hP hD hS _ (lv_sub hl [1, 2, 3, 4, 5, 0] rfl)
      have blk107 : ∀ (v2 : Int32) (v3 : Int32) (v4 : Int32) (v5 : Int32) (v6 : Int32) (w0 : Int32), f_X6_fittingOf_b107 S0 (f_X6_fittingOf_b31 S0 fu31) v2 v3 v4 v5 v6 w0 = some out → ∀ (H : Heap) (locs : List Loc), va_P G.1 vwCl (ce_X6 G.2.1 a0 S0) H → va_D A (ce_X6 G.2.1 a0 S0) → va_S A s.heap H locs → ∀ (ls : Array Slot), lv_has ls 9 [(0, .ref a0.1), (2, .int v2), (3, .int v3), (4, .int v4), (5, .int v5), (6, .int v6)] → W p l e (headSpec wsX6_fittingOf rm_X6_fittingOf).room s m args below meth c H locs 0 0 Q (F0 m 107 ls [.int w0]) := by
        intro v2 v3 v4 v5 v6 w0 hf H locs hP hD hS ls hl
        rw [f_X6_fittingOf_b107] at hf
        refine lv_istore (lv' := [(8, .int w0), (0, .ref a0.1), (2, .int v2), (3, .int v3), (4, .int v4), (5, .int v5), (6, .int v6)]) hx hb dX6_fittingOf_107 hl (by decide) rfl (fun ls hl => ?_)
        refine lv_iload hx hb dX6_fittingOf_109 (lv_at hl 0 rfl) ?_
        refine lv_if_eq (tgt := 133) hx hb dX6_fittingOf_111 (by decide) (fun c1 => ?_) (fun c1 => ?_)
        · replace hf := ob_pos c1 hf
          exact blk133 _ _ _ _ _ hf _ _ hP hD hS _ (lv_sub hl [1, 2, 3, 4, 5, 6] rfl)
        · replace hf := ob_neg c1 hf
          refine lv_iload_n hx hb dX6_fittingOf_114 rfl (lv_at hl 3 rfl) ?_
          refine lv_iload hx hb dX6_fittingOf_115 (lv_at hl 6 rfl) ?_
          refine lv_ishr hx hb dX6_fittingOf_117 ?_
          refine lv_iconst (v := 1) hx hb dX6_fittingOf_118 (by decide) ?_
          refine lv_iand hx hb dX6_fittingOf_119 ?_
          refine lv_iconst (v := 1) hx hb dX6_fittingOf_120 (by decide) ?_
          refine lv_icmp_ne (tgt := 133) hx hb dX6_fittingOf_121 (by decide) (fun c2 => ?_) (fun c2 => ?_)
          · replace hf := ob_neg c2 hf
            exact blk133 _ _ _ _ _ hf _ _ hP hD hS _ (lv_sub hl [1, 2, 3, 4, 5, 6] rfl)
          · replace hf := ob_pos c2 hf
            refine lv_iload hx hb dX6_fittingOf_124 (lv_at hl 4 rfl) ?_
            refine lv_iconst (v := 1) hx hb dX6_fittingOf_126 (by decide) ?_
            refine lv_iload hx hb dX6_fittingOf_127 (lv_at hl 6 rfl) ?_
            refine lv_ishl hx hb dX6_fittingOf_129 ?_
            refine lv_ior hx hb dX6_fittingOf_130 ?_
            refine lv_istore (lv' := [(4, .int (v4 ||| (1 <<< (v6 &&& 31)))), (8, .int w0), (0, .ref a0.1), (2, .int v2), (3, .int v3), (5, .int v5), (6, .int v6)]) hx hb dX6_fittingOf_131 hl (by decide) rfl (fun ls hl => ?_)
            exact blk133 _ _ _ _ _ hf _ _ hP hD hS _ (lv_sub hl [2, 3, 4, 0, 5, 6] rfl)
      have blk106 : ∀ (v2 : Int32) (v3 : Int32) (v4 : Int32) (v5 : Int32) (v6 : Int32), f_X6_fittingOf_b106 S0 (f_X6_fittingOf_b31 S0 fu31) v2 v3 v4 v5 v6 = some out → ∀ (H : Heap) (locs : List Loc), va_P G.1 vwCl (ce_X6 G.2.1 a0 S0) H → va_D A (ce_X6 G.2.1 a0 S0) → va_S A s.heap H locs → ∀ (ls : Array Slot), lv_has ls 9 [(0, .ref a0.1), (2, .int v2), (3, .int v3), (4, .int v4), (5, .int v5), (6, .int v6)] → W p l e (headSpec wsX6_fittingOf rm_X6_fittingOf).room s m args below meth c H locs 0 0 Q (F0 m 106 ls []) := by
        intro v2 v3 v4 v5 v6 hf H locs hP hD hS ls hl
        rw [f_X6_fittingOf_b106] at hf
        refine lv_iconst (v := 0) hx hb dX6_fittingOf_106 (by decide) ?_
        exact blk107 _ _ _ _ _ _ hf _ _ hP hD hS _ (lv_sub hl [0, 1, 2, 3, 4, 5] rfl)
      refine lv_iload hx hb dX6_fittingOf_31 (lv_at hl 5 rfl) ?_
      refine lv_aload_n hx hb dX6_fittingOf_33 rfl (lv_at hl 0 rfl) ?_
      refine va_get (D := G.1) (ci := 6) (v := .ref a0.2.2.1) (C := RX6) (T := TX6) (N := 14) hx hb hts hinX6 hown hK hP 0 rfl rfl 1 (by decide) lk0 (fun _ h9 => h9) rfl dX6_fittingOf_34 ?_
      refine lv_iconst (v := 0) hx hb dX6_fittingOf_37 (by decide) ?_
      refine va_iald hx hb hK hP 2 0 rfl rfl (by decide : inB 0 130) dX6_fittingOf_38 ?_
      refine zl_top (y := S0.2.1 0) rfl ?_
      refine lv_icmp_ge (tgt := 139) hx hb dX6_fittingOf_39 (by decide) (fun c3 => ?_) (fun c3 => ?_)
      · replace hf := ob_pos c3 hf
        refine lv_iload hx hb dX6_fittingOf_139 (lv_at hl 3 rfl) ?_
        exact fin _ _ _ _ _ hf hP hD hS dX6_fittingOf_141
      · replace hf := ob_neg c3 hf
        refine lv_aload_n hx hb dX6_fittingOf_42 rfl (lv_at hl 0 rfl) ?_
        refine lv_iload hx hb dX6_fittingOf_43 (lv_at hl 5 rfl) ?_
        refine lv_iconst (v := 0) hx hb dX6_fittingOf_45 (by decide) ?_
        obtain ⟨r4, hr4, hf⟩ := ob_bind hf
        have hFc := va_free (wc := ce_X6 G.2.1 a0 S0) hD hS hA [0, 1, 2, 3, 4, 5, 6, 7, 8, 9] rfl
        refine zc_ro (va_runV (As := [.int v6, .int 0]) (rest := []) ⟨hx, hb, hml, hown, hts⟩ (c_X6_get l G a0 H.size S0 v6 0 _ hr4) (cwV 2 hts gX6_fittingOf_X6_get rfl rfl rfl (by decide +kernel) ⟨Nat.le_of_ble_eq_true rfl, Nat.le_of_ble_eq_true rfl⟩) ⟨PcM.blind, va_recv hK hP (ci := 6) (q0 := 0) rfl rfl, PcM.ok hP hD hK hE hS hFc⟩ rfl rfl hl.1 rfl (lv_room (Nat.le_of_ble_eq_true rfl)) dX6_fittingOf_46 ⟨Nat.le_refl _, Nat.le_refl _⟩) hP hD hS hA [0, 1, 2, 3, 4, 5, 6, 7, 8, 9] rfl (fun H locs hP hS => ?_)
        refine lv_istore (lv' := [(7, .int r4), (0, .ref a0.1), (2, .int v2), (3, .int v3), (4, .int v4), (5, .int v5), (6, .int v6)]) hx hb dX6_fittingOf_49 hl (by decide) rfl (fun ls hl => ?_)
        refine lv_iload_n hx hb dX6_fittingOf_51 rfl (lv_at hl 2 rfl) ?_
        refine lv_if_eq (tgt := 70) hx hb dX6_fittingOf_52 (by decide) (fun c5 => ?_) (fun c5 => ?_)
        · replace hf := ob_pos c5 hf
          refine lv_iload hx hb dX6_fittingOf_70 (lv_at hl 0 rfl) ?_
          refine lv_bipush (v := 10) hx hb dX6_fittingOf_72 (by decide) ?_
          refine lv_idiv hx hb dX6_fittingOf_74 (by decide) ?_
          refine lv_iload hx hb dX6_fittingOf_75 (lv_at hl 5 rfl) ?_
          refine lv_bipush (v := 10) hx hb dX6_fittingOf_77 (by decide) ?_
          refine lv_idiv hx hb dX6_fittingOf_79 (by decide) ?_
          obtain ⟨r6, hr6, hf⟩ := ob_bind hf
          have hPc : va_P G.1 vwCl (([] : va_W)) H := hP.sub [] rfl
          have hDc : va_D A (([] : va_W)) := hD.sub [] (by decide) rfl
          have hFc := va_free (wc := ([] : va_W)) hD hS hA [] rfl
          refine zc_ro (va_runS (As := [.int (r4 / 10), .int (v5 / 10)]) (rest := []) ⟨hx, hb, hml, hown, hts⟩ (c_X6_isRead l G H.size (r4 / 10) (v5 / 10) _ hr6) (va_cwS 2 hts gX6_fittingOf_X6_isRead rfl rfl rfl (by decide +kernel) ⟨Nat.le_of_ble_eq_true rfl, Nat.le_of_ble_eq_true rfl⟩) ⟨PcM.blind, PcM.ok hPc hDc hK hE hS hFc⟩ rfl rfl hl.1 rfl (lv_room (Nat.le_of_ble_eq_true rfl)) dX6_fittingOf_80 ⟨Nat.le_refl _, Nat.le_refl _⟩) hP hD hS hA [] rfl (fun H locs hP hS => ?_)
          refine lv_if_eq (tgt := 106) hx hb dX6_fittingOf_83 (by decide) (fun c7 => ?_) (fun c7 => ?_)
          · replace hf := ob_pos c7 hf
            exact blk106 _ _ _ _ _ hf _ _ hP hD hS _ (lv_sub hl [1, 2, 3, 4, 5, 6] rfl)
          · replace hf := ob_neg c7 hf
            refine lv_iload hx hb dX6_fittingOf_86 (lv_at hl 0 rfl) ?_
            refine lv_bipush (v := 10) hx hb dX6_fittingOf_88 (by decide) ?_
            refine lv_irem hx hb dX6_fittingOf_90 (by decide) ?_
            refine lv_iload hx hb dX6_fittingOf_91 (lv_at hl 5 rfl) ?_
            refine lv_bipush (v := 10) hx hb dX6_fittingOf_93 (by decide) ?_
            refine lv_irem hx hb dX6_fittingOf_95 (by decide) ?_
            obtain ⟨r8, hr8, hf⟩ := ob_bind hf
            have hPc : va_P G.1 vwCl (([] : va_W)) H := hP.sub [] rfl
            have hDc : va_D A (([] : va_W)) := hD.sub [] (by decide) rfl
            have hFc := va_free (wc := ([] : va_W)) hD hS hA [] rfl
            refine zc_ro (va_runS (As := [.int (r4 - r4 / 10 * 10), .int (v5 - v5 / 10 * 10)]) (rest := []) ⟨hx, hb, hml, hown, hts⟩ (c_X6_isRead l G H.size (r4 - r4 / 10 * 10) (v5 - v5 / 10 * 10) _ hr8) (va_cwS 2 hts gX6_fittingOf_X6_isRead rfl rfl rfl (by decide +kernel) ⟨Nat.le_of_ble_eq_true rfl, Nat.le_of_ble_eq_true rfl⟩) ⟨PcM.blind, PcM.ok hPc hDc hK hE hS hFc⟩ rfl rfl hl.1 rfl (lv_room (Nat.le_of_ble_eq_true rfl)) dX6_fittingOf_96 ⟨Nat.le_refl _, Nat.le_refl _⟩) hP hD hS hA [] rfl (fun H locs hP hS => ?_)
            refine lv_if_eq (tgt := 106) hx hb dX6_fittingOf_99 (by decide) (fun c9 => ?_) (fun c9 => ?_)
            · replace hf := ob_pos c9 hf
              exact blk106 _ _ _ _ _ hf _ _ hP hD hS _ (lv_sub hl [1, 2, 3, 4, 5, 6] rfl)
            · replace hf := ob_neg c9 hf
              refine lv_iconst (v := 1) hx hb dX6_fittingOf_102 (by decide) ?_
              refine lv_goto (tgt := 107) hx hb dX6_fittingOf_103 (by decide) ?_
              exact blk107 _ _ _ _ _ _ hf _ _ hP hD hS _ (lv_sub hl [1, 2, 3, 4, 5, 6] rfl)
        · replace hf := ob_neg c5 hf
          refine lv_iload hx hb dX6_fittingOf_55 (lv_at hl 0 rfl) ?_
          refine lv_iload hx hb dX6_fittingOf_57 (lv_at hl 5 rfl) ?_
          refine lv_icmp_ne (tgt := 66) hx hb dX6_fittingOf_59 (by decide) (fun c10 => ?_) (fun c10 => ?_)
          · replace hf := ob_neg c10 hf
            refine lv_iconst (v := 0) hx hb dX6_fittingOf_66 (by decide) ?_
            refine lv_goto (tgt := 107) hx hb dX6_fittingOf_67 (by decide) ?_
            exact blk107 _ _ _ _ _ _ hf _ _ hP hD hS _ (lv_sub hl [1, 2, 3, 4, 5, 6] rfl)
          · replace hf := ob_pos c10 hf
            refine lv_iconst (v := 1) hx hb dX6_fittingOf_62 (by decide) ?_
            refine lv_goto (tgt := 107) hx hb dX6_fittingOf_63 (by decide) ?_
            exact blk107 _ _ _ _ _ _ hf _ _ hP hD hS _ (lv_sub hl [1, 2, 3, 4, 5, 6] rfl)
  have go : ∀ (H : Heap) (locs : List Loc), va_P G.1 vwCl (ce_X6 G.2.1 a0 S0) H → va_D A (ce_X6 G.2.1 a0 S0) → va_S A s.heap H locs → ∀ (ls : Array Slot), lv_has ls 9 [(0, .ref a0.1), (1, .int p1), (2, .int p2)] → W p l e (headSpec wsX6_fittingOf rm_X6_fittingOf).room s m args below meth c H locs 0 0 Q (F0 m 0 ls []) := by
    intro H locs hP hD hS ls hl
    refine lv_aload_n hx hb dX6_fittingOf_0 rfl (lv_at hl 0 rfl) ?_
    refine lv_aload_n hx hb dX6_fittingOf_1 rfl (lv_at hl 0 rfl) ?_
    refine lv_iload_n hx hb dX6_fittingOf_2 rfl (lv_at hl 1 rfl) ?_
    refine lv_iconst (v := 1) hx hb dX6_fittingOf_3 (by decide) ?_
    obtain ⟨r11, hr11, hf⟩ := ob_bind hf
    have hFc := va_free (wc := ce_X6 G.2.1 a0 S0) hD hS hA [0, 1, 2, 3, 4, 5, 6, 7, 8, 9] rfl
    refine zc_ro (va_runV (As := [.int p1, .int 1]) (rest := [.ref a0.1]) ⟨hx, hb, hml, hown, hts⟩ (c_X6_in l G a0 H.size S0 p1 1 _ hr11) (cwV 2 hts gX6_fittingOf_X6_in rfl rfl rfl (by decide +kernel) ⟨Nat.le_of_ble_eq_true rfl, Nat.le_of_ble_eq_true rfl⟩) ⟨PcM.blind, va_recv hK hP (ci := 6) (q0 := 0) rfl rfl, PcM.ok hP hD hK hE hS hFc⟩ rfl rfl hl.1 rfl (lv_room (Nat.le_of_ble_eq_true rfl)) dX6_fittingOf_4 ⟨Nat.le_refl _, Nat.le_refl _⟩) hP hD hS hA [0, 1, 2, 3, 4, 5, 6, 7, 8, 9] rfl (fun H locs hP hS => ?_)
    refine lv_aload_n hx hb dX6_fittingOf_7 rfl (lv_at hl 0 rfl) ?_
    refine lv_iload_n hx hb dX6_fittingOf_8 rfl (lv_at hl 1 rfl) ?_
    refine lv_iconst (v := 0) hx hb dX6_fittingOf_9 (by decide) ?_
    obtain ⟨r12, hr12, hf⟩ := ob_bind hf
    have hFc := va_free (wc := ce_X6 G.2.1 a0 S0) hD hS hA [0, 1, 2, 3, 4, 5, 6, 7, 8, 9] rfl
    refine zc_ro (va_runV (As := [.int p1, .int 0]) (rest := [.int r11, .ref a0.1]) ⟨hx, hb, hml, hown, hts⟩ (c_X6_in l G a0 H.size S0 p1 0 _ hr12) (cwV 2 hts gX6_fittingOf_X6_in rfl rfl rfl (by decide +kernel) ⟨Nat.le_of_ble_eq_true rfl, Nat.le_of_ble_eq_true rfl⟩) ⟨PcM.blind, va_recv hK hP (ci := 6) (q0 := 0) rfl rfl, PcM.ok hP hD hK hE hS hFc⟩ rfl rfl hl.1 rfl (lv_room (Nat.le_of_ble_eq_true rfl)) dX6_fittingOf_10 ⟨Nat.le_refl _, Nat.le_refl _⟩) hP hD hS hA [0, 1, 2, 3, 4, 5, 6, 7, 8, 9] rfl (fun H locs hP hS => ?_)
    obtain ⟨r13, hr13, hf⟩ := ob_bind hf
    have hFc := va_free (wc := ce_X6 G.2.1 a0 S0) hD hS hA [0, 1, 2, 3, 4, 5, 6, 7, 8, 9] rfl
    refine zc_ro (va_runV (As := [.int r11, .int r12]) (rest := []) ⟨hx, hb, hml, hown, hts⟩ (c_X6_passes l G a0 H.size S0 r11 r12 _ hr13) (cwV 2 hts gX6_fittingOf_X6_passes rfl rfl rfl (by decide +kernel) ⟨Nat.le_of_ble_eq_true rfl, Nat.le_of_ble_eq_true rfl⟩) ⟨PcM.blind, va_recv hK hP (ci := 6) (q0 := 0) rfl rfl, PcM.ok hP hD hK hE hS hFc⟩ rfl rfl hl.1 rfl (lv_room (Nat.le_of_ble_eq_true rfl)) dX6_fittingOf_13 ⟨Nat.le_refl _, Nat.le_refl _⟩) hP hD hS hA [0, 1, 2, 3, 4, 5, 6, 7, 8, 9] rfl (fun H locs hP hS => ?_)
    refine lv_istore_n (lv' := [(3, .int r13), (0, .ref a0.1), (1, .int p1), (2, .int p2)]) hx hb dX6_fittingOf_16 rfl hl (by decide) rfl (fun ls hl => ?_)
    refine lv_iconst (v := 0) hx hb dX6_fittingOf_17 (by decide) ?_
    refine lv_istore (lv' := [(4, .int 0), (3, .int r13), (0, .ref a0.1), (1, .int p1), (2, .int p2)]) hx hb dX6_fittingOf_18 hl (by decide) rfl (fun ls hl => ?_)
    refine lv_aload_n hx hb dX6_fittingOf_20 rfl (lv_at hl 2 rfl) ?_
    refine lv_iload_n hx hb dX6_fittingOf_21 rfl (lv_at hl 3 rfl) ?_
    refine lv_iconst (v := 2) hx hb dX6_fittingOf_22 (by decide) ?_
    obtain ⟨r14, hr14, hf⟩ := ob_bind hf
    have hFc := va_free (wc := ce_X6 G.2.1 a0 S0) hD hS hA [0, 1, 2, 3, 4, 5, 6, 7, 8, 9] rfl
    refine zc_ro (va_runV (As := [.int p1, .int 2]) (rest := []) ⟨hx, hb, hml, hown, hts⟩ (c_X6_in l G a0 H.size S0 p1 2 _ hr14) (cwV 2 hts gX6_fittingOf_X6_in rfl rfl rfl (by decide +kernel) ⟨Nat.le_of_ble_eq_true rfl, Nat.le_of_ble_eq_true rfl⟩) ⟨PcM.blind, va_recv hK hP (ci := 6) (q0 := 0) rfl rfl, PcM.ok hP hD hK hE hS hFc⟩ rfl rfl hl.1 rfl (lv_room (Nat.le_of_ble_eq_true rfl)) dX6_fittingOf_23 ⟨Nat.le_refl _, Nat.le_refl _⟩) hP hD hS hA [0, 1, 2, 3, 4, 5, 6, 7, 8, 9] rfl (fun H locs hP hS => ?_)
    refine lv_istore (lv' := [(5, .int r14), (4, .int 0), (3, .int r13), (0, .ref a0.1), (1, .int p1), (2, .int p2)]) hx hb dX6_fittingOf_26 hl (by decide) rfl (fun ls hl => ?_)
    refine lv_iconst (v := 0) hx hb dX6_fittingOf_28 (by decide) ?_
    refine lv_istore (lv' := [(6, .int 0), (5, .int r14), (4, .int 0), (3, .int r13), (0, .ref a0.1), (1, .int p1), (2, .int p2)]) hx hb dX6_fittingOf_29 hl (by decide) rfl (fun ls hl => ?_)
    exact blk31 4096 _ _ _ _ _ hf _ _ hP hD hS _ (lv_sub hl [4, 6, 3, 2, 1, 0] rfl)
  exact go _ _ hP hD hS _ hl
abbrev rm_X6_fitting : Room := { frames := 6, cells := 0, slots := 0, locals := 144 }
set_option maxHeartbeats 4000000 in
set_option maxRecDepth 100000 in
theorem c_X6_fitting (l : Launch) (G : zG) (a0 : AT_X6) (sz : Nat) (S0 : ST_X6) (p1 : Int32) (p2 : Int32) (out : Int32 × ST_X6) (hf : f_X6_fitting S0 p1 p2 = some out) : Met l yX6_fitting wsX6_fitting rm_X6_fitting (PcM G (ce_X6 G.2.1 a0 S0) [.ref a0.1, .int p1, .int p2] sz) (QWr G (fun u => ce_X6 G.2.1 a0 u) out (va_A (ce_X6 G.2.1 a0 S0) sz)) 0 0 (va_A (ce_X6 G.2.1 a0 S0) sz) := by
  rw [f_X6_fitting] at hf
  refine Met.ofW (cc := cX6_fitting) (maxL := 3) (ret := (some .int)) (by decide) rfl ?_
  intro p e s m args below meth c s₁ B hml hv
  obtain ⟨hargs, hsz, hP, hK, hD0, hE⟩ := hv
  have hx := B.exec
  have hb := B.bytes
  have hr := B.returns
  have hts := atoms_spec (ws := wsX6_fitting) B.pre
  have hown : s.vm.findClass RX6 = some m.cls := findClass_of_methodNamed B.named
  have hlocks := B.notSynchronized
  subst hsz
  have hD := hD0.self (sz := s.heap.size)
  generalize hAe : va_A (ce_X6 G.2.1 a0 S0) s.heap.size = A at hD hE ⊢
  have hA : ∀ q : Nat, s.heap.size ≤ q → A q := fun q h => by rw [← hAe]; exact Or.inr h
  have hS : va_S A s.heap s.heap [] := va_S.rf
  have hl := lv_entry ([.ref a0.1, .int p1, .int p2]) (n := 3) (Nat.le_of_ble_eq_true rfl)
  have hent : entryFrame m args 3 = F0 m 0 ((lg_sl ([.ref a0.1, .int p1, .int p2]) ++ List.replicate (3 - (lg_sl ([.ref a0.1, .int p1, .int p2])).length) Slot.unset).toArray) [] := by rw [hargs, lg_entry_eq]
  rw [hent]
  clear hent
  generalize (lg_sl ([.ref a0.1, .int p1, .int p2]) ++ List.replicate (3 - (lg_sl ([.ref a0.1, .int p1, .int p2])).length) Slot.unset).toArray = ls at hl ⊢
  have hl : lv_has ls 3 [(0, .ref a0.1), (1, .int p1), (2, .int p2)] := hl
  have lk0 := hts (Cond.fieldLink RX6 13 "EnginesOnListModel" "s" "[I") (List.mem_of_getElem? (i := 1) rfl)
  have hinX6 : ∀ w ∈ wsX60, w ∈ wsX6_fitting := by decide +kernel
  have fin : ∀ (pc : Nat) (v : Int32) (u : ST_X6) (H : Heap) (locs : List Loc) (ls : Array Slot), some (v, u) = some out → va_P G.1 vwCl (ce_X6 G.2.1 a0 u) H → va_D A (ce_X6 G.2.1 a0 u) → va_S A s.heap H locs → decode cX6_fitting pc = .ok (.ireturn, 1) → W p l e (headSpec wsX6_fitting rm_X6_fitting).room s m args below meth c H locs 0 0 (MQ below (QWr G (fun u => ce_X6 G.2.1 a0 u) out A) args s 0 0 A) (F0 m pc ls [.int v]) := fun pc v u H locs ls ho hP hD hS hd => W.iret (v := v) hx hb hr (fun t ht hW => ⟨⟨v, u, rfl, ob_pair ho, by first | (rw [ht]; exact hP) | (dsimp only; rw [ht]; exact hP), hD⟩, hS.F ht⟩) hS.2.2 hd
  generalize MQ below (QWr G (fun u => ce_X6 G.2.1 a0 u) out A) args s 0 0 A = Q at fin ⊢
  have blk41 : ∀ (S0 : ST_X6) (w1 : Int32) (w2 : Int32), f_X6_fitting_b41 S0 w1 w2 = some out → ∀ (H : Heap) (locs : List Loc), va_P G.1 vwCl (ce_X6 G.2.1 a0 S0) H → va_D A (ce_X6 G.2.1 a0 S0) → va_S A s.heap H locs → ∀ (ls : Array Slot), lv_has ls 3 [] → W p l e (headSpec wsX6_fitting rm_X6_fitting).room s m args below meth c H locs 0 0 Q (F0 m 41 ls [.int w2, .int w1, .ref a0.1]) := by
    intro S0 w1 w2 hf H locs hP hD hS ls hl
    rw [f_X6_fitting_b41] at hf
    obtain ⟨r1, hr1, hf⟩ := ob_bind hf
    have hFc := va_free (wc := ce_X6 G.2.1 a0 S0) hD hS hA [0, 1, 2, 3, 4, 5, 6, 7, 8, 9] rfl
    refine zc_ro (va_runV (As := [.int w1, .int w2]) (rest := []) ⟨hx, hb, hml, hown, hts⟩ (c_X6_fittingOf l G a0 H.size S0 w1 w2 _ hr1) (cwV 2 hts gX6_fitting_X6_fittingOf rfl rfl rfl (by decide +kernel) ⟨Nat.le_of_ble_eq_true rfl, Nat.le_of_ble_eq_true rfl⟩) ⟨PcM.blind, va_recv hK hP (ci := 6) (q0 := 0) rfl rfl, PcM.ok hP hD hK hE hS hFc⟩ rfl rfl hl.1 rfl (lv_room (Nat.le_of_ble_eq_true rfl)) dX6_fitting_41 ⟨Nat.le_refl _, Nat.le_refl _⟩) hP hD hS hA [0, 1, 2, 3, 4, 5, 6, 7, 8, 9] rfl (fun H locs hP hS => ?_)
    refine lv_goto (tgt := 53) hx hb dX6_fitting_44 (by decide) ?_
    exact fin _ _ _ _ _ _ hf hP hD hS dX6_fitting_53
  have go : ∀ (H : Heap) (locs : List Loc), va_P G.1 vwCl (ce_X6 G.2.1 a0 S0) H → va_D A (ce_X6 G.2.1 a0 S0) → va_S A s.heap H locs → ∀ (ls : Array Slot), lv_has ls 3 [(0, .ref a0.1), (1, .int p1), (2, .int p2)] → W p l e (headSpec wsX6_fitting rm_X6_fitting).room s m args below meth c H locs 0 0 Q (F0 m 0 ls []) := by
    intro H locs hP hD hS ls hl
    refine lv_iload_n hx hb dX6_fitting_0 rfl (lv_at hl 1 rfl) ?_
    refine lv_aload_n hx hb dX6_fitting_1 rfl (lv_at hl 0 rfl) ?_
    refine va_get (D := G.1) (ci := 6) (v := .ref a0.2.2.1) (C := RX6) (T := TX6) (N := 14) hx hb hts hinX6 hown hK hP 0 rfl rfl 1 (by decide) lk0 (fun _ h9 => h9) rfl dX6_fitting_2 ?_
    refine lv_iconst (v := 4) hx hb dX6_fitting_5 (by decide) ?_
    refine va_iald hx hb hK hP 2 0 rfl rfl (by decide : inB 4 130) dX6_fitting_6 ?_
    refine zl_top (y := S0.2.1 4) rfl ?_
    obtain ⟨r2, hr2, hf⟩ := ob_bind hf
    have hPc : va_P G.1 vwCl (([] : va_W)) H := hP.sub [] rfl
    have hDc : va_D A (([] : va_W)) := hD.sub [] (by decide) rfl
    have hFc := va_free (wc := ([] : va_W)) hD hS hA [] rfl
    refine zc_ro (va_runS (As := [.int p1, .int (S0.2.1 4)]) (rest := []) ⟨hx, hb, hml, hown, hts⟩ (c_X6_isIn l G H.size p1 (S0.2.1 4) _ hr2) (va_cwS 2 hts gX6_fitting_X6_isIn rfl rfl rfl (by decide +kernel) ⟨Nat.le_of_ble_eq_true rfl, Nat.le_of_ble_eq_true rfl⟩) ⟨PcM.blind, PcM.ok hPc hDc hK hE hS hFc⟩ rfl rfl hl.1 rfl (lv_room (Nat.le_of_ble_eq_true rfl)) dX6_fitting_7 ⟨Nat.le_refl _, Nat.le_refl _⟩) hP hD hS hA [] rfl (fun H locs hP hS => ?_)
    refine lv_if_ne (tgt := 21) hx hb dX6_fitting_10 (by decide) (fun c3 => ?_) (fun c3 => ?_)
    · replace hf := ob_neg c3 hf
      refine lv_iload_n hx hb dX6_fitting_21 rfl (lv_at hl 2 rfl) ?_
      refine lv_iconst (v := 2) hx hb dX6_fitting_22 (by decide) ?_
      obtain ⟨r4, hr4, hf⟩ := ob_bind hf
      have hPc : va_P G.1 vwCl (([] : va_W)) H := hP.sub [] rfl
      have hDc : va_D A (([] : va_W)) := hD.sub [] (by decide) rfl
      have hFc := va_free (wc := ([] : va_W)) hD hS hA [] rfl
      refine zc_ro (va_runS (As := [.int p2, .int 2]) (rest := []) ⟨hx, hb, hml, hown, hts⟩ (c_X6_isIn l G H.size p2 2 _ hr4) (va_cwS 2 hts gX6_fitting_X6_isIn rfl rfl rfl (by decide +kernel) ⟨Nat.le_of_ble_eq_true rfl, Nat.le_of_ble_eq_true rfl⟩) ⟨PcM.blind, PcM.ok hPc hDc hK hE hS hFc⟩ rfl rfl hl.1 rfl (lv_room (Nat.le_of_ble_eq_true rfl)) dX6_fitting_23 ⟨Nat.le_refl _, Nat.le_refl _⟩) hP hD hS hA [] rfl (fun H locs hP hS => ?_)
      refine lv_if_eq (tgt := 47) hx hb dX6_fitting_26 (by decide) (fun c5 => ?_) (fun c5 => ?_)
      · replace hf := ob_pos c5 hf
        refine lv_aload_n hx hb dX6_fitting_47 rfl (lv_at hl 0 rfl) ?_
        refine lv_bipush (v := (-2)) hx hb dX6_fitting_48 (by decide) ?_
        obtain ⟨r6, hr6, hf⟩ := ob_bind hf
        have hFc := va_free (wc := ce_X6 G.2.1 a0 S0) hD hS hA [0, 1, 2, 3, 4, 5, 6, 7, 8, 9] rfl
        refine zc_wr (cf := (fun u => ce_X6 G.2.1 a0 u)) (ws' := ce_X6 G.2.1 a0 r6.2) (va_runV (As := [.int (-2)]) (rest := []) ⟨hx, hb, hml, hown, hts⟩ (c_X6_refuse l G a0 H.size S0 (-2) _ hr6) (cwV 1 hts gX6_fitting_X6_refuse rfl rfl rfl (by decide +kernel) ⟨Nat.le_of_ble_eq_true rfl, Nat.le_of_ble_eq_true rfl⟩) ⟨PcM.blind, va_recv hK hP (ci := 6) (q0 := 0) rfl rfl, PcM.ok hP hD hK hE hS hFc⟩ rfl rfl hl.1 rfl (lv_room (Nat.le_of_ble_eq_true rfl)) dX6_fitting_50 ⟨Nat.le_refl _, Nat.le_refl _⟩) hP hD hS hA [0, 1, 2, 3, 4, 5, 6, 7, 8, 9] [] [0, 1, 2, 3, 4, 5, 6, 7, 8, 9] rfl rfl (by decide) (by decide) (by decide) rfl (fun H locs hP hD hS => ?_)
        exact fin _ _ _ _ _ _ hf hP hD hS dX6_fitting_53
      · replace hf := ob_neg c5 hf
        refine lv_aload_n hx hb dX6_fitting_29 rfl (lv_at hl 0 rfl) ?_
        refine lv_iload_n hx hb dX6_fitting_30 rfl (lv_at hl 1 rfl) ?_
        refine lv_iload_n hx hb dX6_fitting_31 rfl (lv_at hl 2 rfl) ?_
        refine lv_iconst (v := 1) hx hb dX6_fitting_32 (by decide) ?_
        refine lv_icmp_ne (tgt := 40) hx hb dX6_fitting_33 (by decide) (fun c7 => ?_) (fun c7 => ?_)
        · replace hf := ob_neg c7 hf
          refine lv_iconst (v := 0) hx hb dX6_fitting_40 (by decide) ?_
          exact blk41 _ _ _ hf _ _ hP hD hS _ (lv_sub hl [] rfl)
        · replace hf := ob_pos c7 hf
          refine lv_iconst (v := 1) hx hb dX6_fitting_36 (by decide) ?_
          refine lv_goto (tgt := 41) hx hb dX6_fitting_37 (by decide) ?_
          exact blk41 _ _ _ hf _ _ hP hD hS _ (lv_sub hl [] rfl)
    · replace hf := ob_pos c3 hf
      refine lv_aload_n hx hb dX6_fitting_13 rfl (lv_at hl 0 rfl) ?_
      refine lv_iconst (v := (-1)) hx hb dX6_fitting_14 (by decide) ?_
      obtain ⟨r8, hr8, hf⟩ := ob_bind hf
      have hFc := va_free (wc := ce_X6 G.2.1 a0 S0) hD hS hA [0, 1, 2, 3, 4, 5, 6, 7, 8, 9] rfl
      refine zc_wr (cf := (fun u => ce_X6 G.2.1 a0 u)) (ws' := ce_X6 G.2.1 a0 r8.2) (va_runV (As := [.int (-1)]) (rest := []) ⟨hx, hb, hml, hown, hts⟩ (c_X6_refuse l G a0 H.size S0 (-1) _ hr8) (cwV 1 hts gX6_fitting_X6_refuse rfl rfl rfl (by decide +kernel) ⟨Nat.le_of_ble_eq_true rfl, Nat.le_of_ble_eq_true rfl⟩) ⟨PcM.blind, va_recv hK hP (ci := 6) (q0 := 0) rfl rfl, PcM.ok hP hD hK hE hS hFc⟩ rfl rfl hl.1 rfl (lv_room (Nat.le_of_ble_eq_true rfl)) dX6_fitting_15 ⟨Nat.le_refl _, Nat.le_refl _⟩) hP hD hS hA [0, 1, 2, 3, 4, 5, 6, 7, 8, 9] [] [0, 1, 2, 3, 4, 5, 6, 7, 8, 9] rfl rfl (by decide) (by decide) (by decide) rfl (fun H locs hP hD hS => ?_)
      refine lv_goto (tgt := 53) hx hb dX6_fitting_18 (by decide) ?_
      exact fin _ _ _ _ _ _ hf hP hD hS dX6_fitting_53
  exact go _ _ hP hD hS _ hl
abbrev rm_X6_madeUpNow : Room := { frames := 6, cells := 0, slots := 0, locals := 144 }
set_option maxHeartbeats 4000000 in
set_option maxRecDepth 100000 in
theorem c_X6_madeUpNow (l : Launch) (G : zG) (a0 : AT_X6) (sz : Nat) (S0 : ST_X6) (out : Int32) (hf : f_X6_madeUpNow S0 = some out) : Met l yX6_madeUpNow wsX6_madeUpNow rm_X6_madeUpNow (PcM G (ce_X6 G.2.1 a0 S0) [.ref a0.1] sz) (QRo G (ce_X6 G.2.1 a0 S0) out (va_A (ce_X6 G.2.1 a0 S0) sz)) 0 0 (va_A (ce_X6 G.2.1 a0 S0) sz) := by
  rw [f_X6_madeUpNow] at hf
  refine Met.ofW (cc := cX6_madeUpNow) (maxL := 3) (ret := (some .int)) (by decide) rfl ?_
  intro p e s m args below meth c s₁ B hml hv
  obtain ⟨hargs, hsz, hP, hK, hD0, hE⟩ := hv
  have hx := B.exec
  have hb := B.bytes
  have hr := B.returns
  have hts := atoms_spec (ws := wsX6_madeUpNow) B.pre
  have hown : s.vm.findClass RX6 = some m.cls := findClass_of_methodNamed B.named
  have hlocks := B.notSynchronized
  subst hsz
  have hD := hD0.self (sz := s.heap.size)
  generalize hAe : va_A (ce_X6 G.2.1 a0 S0) s.heap.size = A at hD hE ⊢
  have hA : ∀ q : Nat, s.heap.size ≤ q → A q := fun q h => by rw [← hAe]; exact Or.inr h
  have hS : va_S A s.heap s.heap [] := va_S.rf
  have hl := lv_entry ([.ref a0.1]) (n := 3) (Nat.le_of_ble_eq_true rfl)
  have hent : entryFrame m args 3 = F0 m 0 ((lg_sl ([.ref a0.1]) ++ List.replicate (3 - (lg_sl ([.ref a0.1])).length) Slot.unset).toArray) [] := by rw [hargs, lg_entry_eq]
  rw [hent]
  clear hent
  generalize (lg_sl ([.ref a0.1]) ++ List.replicate (3 - (lg_sl ([.ref a0.1])).length) Slot.unset).toArray = ls at hl ⊢
  have hl : lv_has ls 3 [(0, .ref a0.1)] := hl
  have lk0 := hts (Cond.fieldLink RX6 13 "EnginesOnListModel" "s" "[I") (List.mem_of_getElem? (i := 1) rfl)
  have hinX6 : ∀ w ∈ wsX60, w ∈ wsX6_madeUpNow := by decide +kernel
  have fin : ∀ (pc : Nat) (v : Int32) (H : Heap) (locs : List Loc) (ls : Array Slot), some v = some out → va_P G.1 vwCl (ce_X6 G.2.1 a0 S0) H → va_D A (ce_X6 G.2.1 a0 S0) → va_S A s.heap H locs → decode cX6_madeUpNow pc = .ok (.ireturn, 1) → W p l e (headSpec wsX6_madeUpNow rm_X6_madeUpNow).room s m args below meth c H locs 0 0 (MQ below (QRo G (ce_X6 G.2.1 a0 S0) out A) args s 0 0 A) (F0 m pc ls [.int v]) := fun pc v H locs ls ho hP hD hS hd => W.iret (v := v) hx hb hr (fun t ht hW => ⟨⟨v, (), rfl, Option.some.inj ho, by first | (rw [ht]; exact hP) | (dsimp only; rw [ht]; exact hP)⟩, hS.F ht⟩) hS.2.2 hd
  generalize MQ below (QRo G (ce_X6 G.2.1 a0 S0) out A) args s 0 0 A = Q at fin ⊢
  have blk4 : ∀ (fu4 : Nat), ∀ (v1 : Int32) (v2 : Int32), f_X6_madeUpNow_b4 S0 fu4 v1 v2 = some out → ∀ (H : Heap) (locs : List Loc), va_P G.1 vwCl (ce_X6 G.2.1 a0 S0) H → va_D A (ce_X6 G.2.1 a0 S0) → va_S A s.heap H locs → ∀ (ls : Array Slot), lv_has ls 3 [(0, .ref a0.1), (1, .int v1), (2, .int v2)] → W p l e (headSpec wsX6_madeUpNow rm_X6_madeUpNow).room s m args below meth c H locs 0 0 Q (F0 m 4 ls []) := by
    intro fu4
    induction fu4 with
    | zero => intro v1 v2 hf; exact ob_none hf
    | succ fu4 ih4 =>
      intro v1 v2 hf H locs hP hD hS ls hl
      rw [f_X6_madeUpNow_b4] at hf
      have blk29 : ∀ (v1 : Int32) (v2 : Int32), f_X6_madeUpNow_b29 S0 (f_X6_madeUpNow_b4 S0 fu4) v1 v2 = some out → ∀ (H : Heap) (locs : List Loc), va_P G.1 vwCl (ce_X6 G.2.1 a0 S0) H → va_D A (ce_X6 G.2.1 a0 S0) → va_S A s.heap H locs → ∀ (ls : Array Slot), lv_has ls 3 [(0, .ref a0.1), (1, .int v1), (2, .int v2)] → W p l e (headSpec wsX6_madeUpNow rm_X6_madeUpNow).room s m args below meth c H locs 0 0 Q (F0 m 29 ls []) := by
        intro v1 v2 hf H locs hP hD hS ls hl
        rw [f_X6_madeUpNow_b29] at hf
        refine lv_iinc (v := v2 + 1) (lv' := [(2, .int (v2 + 1)), (0, .ref a0.1), (1, .int v1)]) hx hb dX6_madeUpNow_29 hl (k := 2) rfl rfl (by decide) rfl (fun ls hl => ?_)
        refine lv_goto (tgt := 4) hx hb dX6_madeUpNow_32 (by decide) ?_
        exact ih4 _ _ hf _ _ hP hD hS _ (lv_sub hl [1, 2, 0] rfl)
      refine lv_iload_n hx hb dX6_madeUpNow_4 rfl (lv_at hl 2 rfl) ?_
      refine lv_aload_n hx hb dX6_madeUpNow_5 rfl (lv_at hl 0 rfl) ?_
      refine va_get (D := G.1) (ci := 6) (v := .ref a0.2.2.1) (C := RX6) (T := TX6) (N := 14) hx hb hts hinX6 hown hK hP 0 rfl rfl 1 (by decide) lk0 (fun _ h9 => h9) rfl dX6_madeUpNow_6 ?_
      refine lv_iconst (v := 4) hx hb dX6_madeUpNow_9 (by decide) ?_
      refine va_iald hx hb hK hP 2 0 rfl rfl (by decide : inB 4 130) dX6_madeUpNow_10 ?_
      refine zl_top (y := S0.2.1 4) rfl ?_
      refine lv_icmp_ge (tgt := 35) hx hb dX6_madeUpNow_11 (by decide) (fun c1 => ?_) (fun c1 => ?_)
      · replace hf := ob_pos c1 hf
        refine lv_iload_n hx hb dX6_madeUpNow_35 rfl (lv_at hl 1 rfl) ?_
        exact fin _ _ _ _ _ hf hP hD hS dX6_madeUpNow_36
      · replace hf := ob_neg c1 hf
        refine lv_aload_n hx hb dX6_madeUpNow_14 rfl (lv_at hl 0 rfl) ?_
        refine lv_iload_n hx hb dX6_madeUpNow_15 rfl (lv_at hl 2 rfl) ?_
        refine lv_iconst (v := 0) hx hb dX6_madeUpNow_16 (by decide) ?_
        obtain ⟨r2, hr2, hf⟩ := ob_bind hf
        have hFc := va_free (wc := ce_X6 G.2.1 a0 S0) hD hS hA [0, 1, 2, 3, 4, 5, 6, 7, 8, 9] rfl
        refine zc_ro (va_runV (As := [.int v2, .int 0]) (rest := []) ⟨hx, hb, hml, hown, hts⟩ (c_X6_fittingOf l G a0 H.size S0 v2 0 _ hr2) (cwV 2 hts gX6_madeUpNow_X6_fittingOf rfl rfl rfl (by decide +kernel) ⟨Nat.le_of_ble_eq_true rfl, Nat.le_of_ble_eq_true rfl⟩) ⟨PcM.blind, va_recv hK hP (ci := 6) (q0 := 0) rfl rfl, PcM.ok hP hD hK hE hS hFc⟩ rfl rfl hl.1 rfl (lv_room (Nat.le_of_ble_eq_true rfl)) dX6_madeUpNow_17 ⟨Nat.le_refl _, Nat.le_refl _⟩) hP hD hS hA [0, 1, 2, 3, 4, 5, 6, 7, 8, 9] rfl (fun H locs hP hS => ?_)
        refine lv_if_ne (tgt := 29) hx hb dX6_madeUpNow_20 (by decide) (fun c3 => ?_) (fun c3 => ?_)
        · replace hf := ob_neg c3 hf
          exact blk29 _ _ hf _ _ hP hD hS _ (lv_sub hl [0, 1, 2] rfl)
        · replace hf := ob_pos c3 hf
          refine lv_iload_n hx hb dX6_madeUpNow_23 rfl (lv_at hl 1 rfl) ?_
          refine lv_iconst (v := 1) hx hb dX6_madeUpNow_24 (by decide) ?_
          refine lv_iload_n hx hb dX6_madeUpNow_25 rfl (lv_at hl 2 rfl) ?_
          refine lv_ishl hx hb dX6_madeUpNow_26 ?_
          refine lv_ior hx hb dX6_madeUpNow_27 ?_
          refine lv_istore_n (lv' := [(1, .int (v1 ||| (1 <<< (v2 &&& 31)))), (0, .ref a0.1), (2, .int v2)]) hx hb dX6_madeUpNow_28 rfl hl (by decide) rfl (fun ls hl => ?_)
          exact blk29 _ _ hf _ _ hP hD hS _ (lv_sub hl [1, 0, 2] rfl)
  have go : ∀ (H : Heap) (locs : List Loc), va_P G.1 vwCl (ce_X6 G.2.1 a0 S0) H → va_D A (ce_X6 G.2.1 a0 S0) → va_S A s.heap H locs → ∀ (ls : Array Slot), lv_has ls 3 [(0, .ref a0.1)] → W p l e (headSpec wsX6_madeUpNow rm_X6_madeUpNow).room s m args below meth c H locs 0 0 Q (F0 m 0 ls []) := by
    intro H locs hP hD hS ls hl
    refine lv_iconst (v := 0) hx hb dX6_madeUpNow_0 (by decide) ?_
    refine lv_istore_n (lv' := [(1, .int 0), (0, .ref a0.1)]) hx hb dX6_madeUpNow_1 rfl hl (by decide) rfl (fun ls hl => ?_)
    refine lv_iconst (v := 0) hx hb dX6_madeUpNow_2 (by decide) ?_
    refine lv_istore_n (lv' := [(2, .int 0), (1, .int 0), (0, .ref a0.1)]) hx hb dX6_madeUpNow_3 rfl hl (by decide) rfl (fun ls hl => ?_)
    exact blk4 4096 _ _ hf _ _ hP hD hS _ (lv_sub hl [2, 1, 0] rfl)
  exact go _ _ hP hD hS _ hl
abbrev rm_X6_madeUp : Room := { frames := 7, cells := 0, slots := 0, locals := 166 }
set_option maxHeartbeats 4000000 in
set_option maxRecDepth 100000 in
theorem c_X6_madeUp (l : Launch) (G : zG) (a0 : AT_X6) (sz : Nat) (S0 : ST_X6) (out : Int32) (hf : f_X6_madeUp S0 = some out) : Met l yX6_madeUp wsX6_madeUp rm_X6_madeUp (PcM G (ce_X6 G.2.1 a0 S0) [.ref a0.1] sz) (QRo G (ce_X6 G.2.1 a0 S0) out (va_A (ce_X6 G.2.1 a0 S0) sz)) 0 0 (va_A (ce_X6 G.2.1 a0 S0) sz) := by
  rw [f_X6_madeUp] at hf
  refine Met.ofW (cc := cX6_madeUp) (maxL := 1) (ret := (some .int)) (by decide) rfl ?_
  intro p e s m args below meth c s₁ B hml hv
  obtain ⟨hargs, hsz, hP, hK, hD0, hE⟩ := hv
  have hx := B.exec
  have hb := B.bytes
  have hr := B.returns
  have hts := atoms_spec (ws := wsX6_madeUp) B.pre
  have hown : s.vm.findClass RX6 = some m.cls := findClass_of_methodNamed B.named
  have hlocks := B.notSynchronized
  subst hsz
  have hD := hD0.self (sz := s.heap.size)
  generalize hAe : va_A (ce_X6 G.2.1 a0 S0) s.heap.size = A at hD hE ⊢
  have hA : ∀ q : Nat, s.heap.size ≤ q → A q := fun q h => by rw [← hAe]; exact Or.inr h
  have hS : va_S A s.heap s.heap [] := va_S.rf
  have hl := lv_entry ([.ref a0.1]) (n := 1) (Nat.le_of_ble_eq_true rfl)
  have hent : entryFrame m args 1 = F0 m 0 ((lg_sl ([.ref a0.1]) ++ List.replicate (1 - (lg_sl ([.ref a0.1])).length) Slot.unset).toArray) [] := by rw [hargs, lg_entry_eq]
  rw [hent]
  clear hent
  generalize (lg_sl ([.ref a0.1]) ++ List.replicate (1 - (lg_sl ([.ref a0.1])).length) Slot.unset).toArray = ls at hl ⊢
  have hl : lv_has ls 1 [(0, .ref a0.1)] := hl
  have fin : ∀ (pc : Nat) (v : Int32) (H : Heap) (locs : List Loc) (ls : Array Slot), some v = some out → va_P G.1 vwCl (ce_X6 G.2.1 a0 S0) H → va_D A (ce_X6 G.2.1 a0 S0) → va_S A s.heap H locs → decode cX6_madeUp pc = .ok (.ireturn, 1) → W p l e (headSpec wsX6_madeUp rm_X6_madeUp).room s m args below meth c H locs 0 0 (MQ below (QRo G (ce_X6 G.2.1 a0 S0) out A) args s 0 0 A) (F0 m pc ls [.int v]) := fun pc v H locs ls ho hP hD hS hd => W.iret (v := v) hx hb hr (fun t ht hW => ⟨⟨v, (), rfl, Option.some.inj ho, by first | (rw [ht]; exact hP) | (dsimp only; rw [ht]; exact hP)⟩, hS.F ht⟩) hS.2.2 hd
  generalize MQ below (QRo G (ce_X6 G.2.1 a0 S0) out A) args s 0 0 A = Q at fin ⊢
  have go : ∀ (H : Heap) (locs : List Loc), va_P G.1 vwCl (ce_X6 G.2.1 a0 S0) H → va_D A (ce_X6 G.2.1 a0 S0) → va_S A s.heap H locs → ∀ (ls : Array Slot), lv_has ls 1 [(0, .ref a0.1)] → W p l e (headSpec wsX6_madeUp rm_X6_madeUp).room s m args below meth c H locs 0 0 Q (F0 m 0 ls []) := by
    intro H locs hP hD hS ls hl
    refine lv_aload_n hx hb dX6_madeUp_0 rfl (lv_at hl 0 rfl) ?_
    obtain ⟨r1, hr1, hf⟩ := ob_bind hf
    have hFc := va_free (wc := ce_X6 G.2.1 a0 S0) hD hS hA [0, 1, 2, 3, 4, 5, 6, 7, 8, 9] rfl
    refine zc_ro (va_runV (As := []) (rest := []) ⟨hx, hb, hml, hown, hts⟩ (c_X6_madeUpNow l G a0 H.size S0 _ hr1) (cwV 0 hts gX6_madeUp_X6_madeUpNow rfl rfl rfl (by decide +kernel) ⟨Nat.le_of_ble_eq_true rfl, Nat.le_of_ble_eq_true rfl⟩) ⟨PcM.blind, va_recv hK hP (ci := 6) (q0 := 0) rfl rfl, PcM.ok hP hD hK hE hS hFc⟩ rfl rfl hl.1 rfl (lv_room (Nat.le_of_ble_eq_true rfl)) dX6_madeUp_1 ⟨Nat.le_refl _, Nat.le_refl _⟩) hP hD hS hA [0, 1, 2, 3, 4, 5, 6, 7, 8, 9] rfl (fun H locs hP hS => ?_)
    exact fin _ _ _ _ _ hf hP hD hS dX6_madeUp_4
  exact go _ _ hP hD hS _ hl
abbrev rm_X6_madeUpBy : Room := { frames := 7, cells := 0, slots := 0, locals := 166 }
set_option maxHeartbeats 4000000 in
set_option maxRecDepth 100000 in
theorem c_X6_madeUpBy (l : Launch) (G : zG) (a0 : AT_X6) (sz : Nat) (S0 : ST_X6) (p1 : Int32) (out : Int32) (hf : f_X6_madeUpBy S0 p1 = some out) : Met l yX6_madeUpBy wsX6_madeUpBy rm_X6_madeUpBy (PcM G (ce_X6 G.2.1 a0 S0) [.ref a0.1, .int p1] sz) (QRo G (ce_X6 G.2.1 a0 S0) out (va_A (ce_X6 G.2.1 a0 S0) sz)) 0 0 (va_A (ce_X6 G.2.1 a0 S0) sz) := by
  rw [f_X6_madeUpBy] at hf
  refine Met.ofW (cc := cX6_madeUpBy) (maxL := 5) (ret := (some .int)) (by decide) rfl ?_
  intro p e s m args below meth c s₁ B hml hv
  obtain ⟨hargs, hsz, hP, hK, hD0, hE⟩ := hv
  have hx := B.exec
  have hb := B.bytes
  have hr := B.returns
  have hts := atoms_spec (ws := wsX6_madeUpBy) B.pre
  have hown : s.vm.findClass RX6 = some m.cls := findClass_of_methodNamed B.named
  have hlocks := B.notSynchronized
  subst hsz
  have hD := hD0.self (sz := s.heap.size)
  generalize hAe : va_A (ce_X6 G.2.1 a0 S0) s.heap.size = A at hD hE ⊢
  have hA : ∀ q : Nat, s.heap.size ≤ q → A q := fun q h => by rw [← hAe]; exact Or.inr h
  have hS : va_S A s.heap s.heap [] := va_S.rf
  have hl := lv_entry ([.ref a0.1, .int p1]) (n := 5) (Nat.le_of_ble_eq_true rfl)
  have hent : entryFrame m args 5 = F0 m 0 ((lg_sl ([.ref a0.1, .int p1]) ++ List.replicate (5 - (lg_sl ([.ref a0.1, .int p1])).length) Slot.unset).toArray) [] := by rw [hargs, lg_entry_eq]
  rw [hent]
  clear hent
  generalize (lg_sl ([.ref a0.1, .int p1]) ++ List.replicate (5 - (lg_sl ([.ref a0.1, .int p1])).length) Slot.unset).toArray = ls at hl ⊢
  have hl : lv_has ls 5 [(0, .ref a0.1), (1, .int p1)] := hl
  have lk0 := hts (Cond.fieldLink RX6 13 "EnginesOnListModel" "s" "[I") (List.mem_of_getElem? (i := 1) rfl)
  have hinX6 : ∀ w ∈ wsX60, w ∈ wsX6_madeUpBy := by decide +kernel
  have fin : ∀ (pc : Nat) (v : Int32) (H : Heap) (locs : List Loc) (ls : Array Slot), some v = some out → va_P G.1 vwCl (ce_X6 G.2.1 a0 S0) H → va_D A (ce_X6 G.2.1 a0 S0) → va_S A s.heap H locs → decode cX6_madeUpBy pc = .ok (.ireturn, 1) → W p l e (headSpec wsX6_madeUpBy rm_X6_madeUpBy).room s m args below meth c H locs 0 0 (MQ below (QRo G (ce_X6 G.2.1 a0 S0) out A) args s 0 0 A) (F0 m pc ls [.int v]) := fun pc v H locs ls ho hP hD hS hd => W.iret (v := v) hx hb hr (fun t ht hW => ⟨⟨v, (), rfl, Option.some.inj ho, by first | (rw [ht]; exact hP) | (dsimp only; rw [ht]; exact hP)⟩, hS.F ht⟩) hS.2.2 hd
  generalize MQ below (QRo G (ce_X6 G.2.1 a0 S0) out A) args s 0 0 A = Q at fin ⊢
  have blk10 : ∀ (fu10 : Nat), ∀ (v1 : Int32) (v2 : Int32) (v3 : Int32) (v4 : Int32), f_X6_madeUpBy_b10 S0 fu10 v1 v2 v3 v4 = some out → ∀ (H : Heap) (locs : List Loc), va_P G.1 vwCl (ce_X6 G.2.1 a0 S0) H → va_D A (ce_X6 G.2.1 a0 S0) → va_S A s.heap H locs → ∀ (ls : Array Slot), lv_has ls 5 [(0, .ref a0.1), (1, .int v1), (2, .int v2), (3, .int v3), (4, .int v4)] → W p l e (headSpec wsX6_madeUpBy rm_X6_madeUpBy).room s m args below meth c H locs 0 0 Q (F0 m 10 ls []) := by
    intro fu10
    induction fu10 with
    | zero => intro v1 v2 v3 v4 hf; exact ob_none hf
    | succ fu10 ih10 =>
      intro v1 v2 v3 v4 hf H locs hP hD hS ls hl
      rw [f_X6_madeUpBy_b10] at hf
      have blk48 : ∀ (v1 : Int32) (v2 : Int32) (v4 : Int32) (w0 : Int32) (w1 : Int32), f_X6_madeUpBy_b48 S0 (f_X6_madeUpBy_b10 S0 fu10) v1 v2 v4 w0 w1 = some out → ∀ (H : Heap) (locs : List Loc), va_P G.1 vwCl (ce_X6 G.2.1 a0 S0) H → va_D A (ce_X6 G.2.1 a0 S0) → va_S A s.heap H locs → ∀ (ls : Array Slot), lv_has ls 5 [(0, .ref a0.1), (1, .int v1), (2, .int v2), (4, .int v4)] → W p l e (headSpec wsX6_madeUpBy rm_X6_madeUpBy).room s m args below meth c H locs 0 0 Q (F0 m 48 ls [.int w1, .int w0]) := by
        intro v1 v2 v4 w0 w1 hf H locs hP hD hS ls hl
        rw [f_X6_madeUpBy_b48] at hf
        refine lv_iadd hx hb dX6_madeUpBy_48 ?_
        refine lv_istore_n (lv' := [(3, .int (w0 + w1)), (0, .ref a0.1), (1, .int v1), (2, .int v2), (4, .int v4)]) hx hb dX6_madeUpBy_49 rfl hl (by decide) rfl (fun ls hl => ?_)
        refine lv_iinc (v := v4 + 1) (lv' := [(4, .int (v4 + 1)), (3, .int (w0 + w1)), (0, .ref a0.1), (1, .int v1), (2, .int v2)]) hx hb dX6_madeUpBy_50 hl (k := 4) rfl rfl (by decide) rfl (fun ls hl => ?_)
        refine lv_goto (tgt := 10) hx hb dX6_madeUpBy_53 (by decide) ?_
        exact ih10 _ _ _ _ hf _ _ hP hD hS _ (lv_sub hl [2, 3, 4, 1, 0] rfl)
      have blk47 : ∀ (v1 : Int32) (v2 : Int32) (v4 : Int32) (w0 : Int32), f_X6_madeUpBy_b47 S0 (f_X6_madeUpBy_b10 S0 fu10) v1 v2 v4 w0 = some out → ∀ (H : Heap) (locs : List Loc), va_P G.1 vwCl (ce_X6 G.2.1 a0 S0) H → va_D A (ce_X6 G.2.1 a0 S0) → va_S A s.heap H locs → ∀ (ls : Array Slot), lv_has ls 5 [(0, .ref a0.1), (1, .int v1), (2, .int v2), (4, .int v4)] → W p l e (headSpec wsX6_madeUpBy rm_X6_madeUpBy).room s m args below meth c H locs 0 0 Q (F0 m 47 ls [.int w0]) := by
        intro v1 v2 v4 w0 hf H locs hP hD hS ls hl
        rw [f_X6_madeUpBy_b47] at hf
        refine lv_iconst (v := 0) hx hb dX6_madeUpBy_47 (by decide) ?_
        exact blk48 _ _ _ _ _ hf _ _ hP hD hS _ (lv_sub hl [0, 1, 2, 3] rfl)
      refine lv_iload hx hb dX6_madeUpBy_10 (lv_at hl 4 rfl) ?_
      refine lv_aload_n hx hb dX6_madeUpBy_12 rfl (lv_at hl 0 rfl) ?_
      refine va_get (D := G.1) (ci := 6) (v := .ref a0.2.2.1) (C := RX6) (T := TX6) (N := 14) hx hb hts hinX6 hown hK hP 0 rfl rfl 1 (by decide) lk0 (fun _ h9 => h9) rfl dX6_madeUpBy_13 ?_
      refine lv_iconst (v := 4) hx hb dX6_madeUpBy_16 (by decide) ?_
      refine va_iald hx hb hK hP 2 0 rfl rfl (by decide : inB 4 130) dX6_madeUpBy_17 ?_
      refine zl_top (y := S0.2.1 4) rfl ?_
      refine lv_icmp_ge (tgt := 56) hx hb dX6_madeUpBy_18 (by decide) (fun c1 => ?_) (fun c1 => ?_)
      · replace hf := ob_pos c1 hf
        refine lv_iload_n hx hb dX6_madeUpBy_56 rfl (lv_at hl 3 rfl) ?_
        exact fin _ _ _ _ _ hf hP hD hS dX6_madeUpBy_57
      · replace hf := ob_neg c1 hf
        refine lv_iload_n hx hb dX6_madeUpBy_21 rfl (lv_at hl 3 rfl) ?_
        refine lv_iload_n hx hb dX6_madeUpBy_22 rfl (lv_at hl 2 rfl) ?_
        refine lv_iload hx hb dX6_madeUpBy_23 (lv_at hl 4 rfl) ?_
        refine lv_ishr hx hb dX6_madeUpBy_25 ?_
        refine lv_iconst (v := 1) hx hb dX6_madeUpBy_26 (by decide) ?_
        refine lv_iand hx hb dX6_madeUpBy_27 ?_
        refine lv_iconst (v := 1) hx hb dX6_madeUpBy_28 (by decide) ?_
        refine lv_icmp_ne (tgt := 47) hx hb dX6_madeUpBy_29 (by decide) (fun c2 => ?_) (fun c2 => ?_)
        · replace hf := ob_neg c2 hf
          exact blk47 _ _ _ _ hf _ _ hP hD hS _ (lv_sub hl [0, 1, 2, 4] rfl)
        · replace hf := ob_pos c2 hf
          refine lv_aload_n hx hb dX6_madeUpBy_32 rfl (lv_at hl 0 rfl) ?_
          refine lv_iload hx hb dX6_madeUpBy_33 (lv_at hl 4 rfl) ?_
          refine lv_iconst (v := 3) hx hb dX6_madeUpBy_35 (by decide) ?_
          obtain ⟨r3, hr3, hf⟩ := ob_bind hf
          have hFc := va_free (wc := ce_X6 G.2.1 a0 S0) hD hS hA [0, 1, 2, 3, 4, 5, 6, 7, 8, 9] rfl
          refine zc_ro (va_runV (As := [.int v4, .int 3]) (rest := [.int v3]) ⟨hx, hb, hml, hown, hts⟩ (c_X6_in l G a0 H.size S0 v4 3 _ hr3) (cwV 2 hts gX6_madeUpBy_X6_in rfl rfl rfl (by decide +kernel) ⟨Nat.le_of_ble_eq_true rfl, Nat.le_of_ble_eq_true rfl⟩) ⟨PcM.blind, va_recv hK hP (ci := 6) (q0 := 0) rfl rfl, PcM.ok hP hD hK hE hS hFc⟩ rfl rfl hl.1 rfl (lv_room (Nat.le_of_ble_eq_true rfl)) dX6_madeUpBy_36 ⟨Nat.le_refl _, Nat.le_refl _⟩) hP hD hS hA [0, 1, 2, 3, 4, 5, 6, 7, 8, 9] rfl (fun H locs hP hS => ?_)
          refine lv_iload_n hx hb dX6_madeUpBy_39 rfl (lv_at hl 1 rfl) ?_
          refine lv_icmp_ne (tgt := 47) hx hb dX6_madeUpBy_40 (by decide) (fun c4 => ?_) (fun c4 => ?_)
          · replace hf := ob_neg c4 hf
            exact blk47 _ _ _ _ hf _ _ hP hD hS _ (lv_sub hl [0, 1, 2, 4] rfl)
          · replace hf := ob_pos c4 hf
            refine lv_iconst (v := 1) hx hb dX6_madeUpBy_43 (by decide) ?_
            refine lv_goto (tgt := 48) hx hb dX6_madeUpBy_44 (by decide) ?_
            exact blk48 _ _ _ _ _ hf _ _ hP hD hS _ (lv_sub hl [0, 1, 2, 4] rfl)
  have go : ∀ (H : Heap) (locs : List Loc), va_P G.1 vwCl (ce_X6 G.2.1 a0 S0) H → va_D A (ce_X6 G.2.1 a0 S0) → va_S A s.heap H locs → ∀ (ls : Array Slot), lv_has ls 5 [(0, .ref a0.1), (1, .int p1)] → W p l e (headSpec wsX6_madeUpBy rm_X6_madeUpBy).room s m args below meth c H locs 0 0 Q (F0 m 0 ls []) := by
    intro H locs hP hD hS ls hl
    refine lv_aload_n hx hb dX6_madeUpBy_0 rfl (lv_at hl 0 rfl) ?_
    obtain ⟨r5, hr5, hf⟩ := ob_bind hf
    have hFc := va_free (wc := ce_X6 G.2.1 a0 S0) hD hS hA [0, 1, 2, 3, 4, 5, 6, 7, 8, 9] rfl
    refine zc_ro (va_runV (As := []) (rest := []) ⟨hx, hb, hml, hown, hts⟩ (c_X6_madeUpNow l G a0 H.size S0 _ hr5) (cwV 0 hts gX6_madeUpBy_X6_madeUpNow rfl rfl rfl (by decide +kernel) ⟨Nat.le_of_ble_eq_true rfl, Nat.le_of_ble_eq_true rfl⟩) ⟨PcM.blind, va_recv hK hP (ci := 6) (q0 := 0) rfl rfl, PcM.ok hP hD hK hE hS hFc⟩ rfl rfl hl.1 rfl (lv_room (Nat.le_of_ble_eq_true rfl)) dX6_madeUpBy_1 ⟨Nat.le_refl _, Nat.le_refl _⟩) hP hD hS hA [0, 1, 2, 3, 4, 5, 6, 7, 8, 9] rfl (fun H locs hP hS => ?_)
    refine lv_istore_n (lv' := [(2, .int r5), (0, .ref a0.1), (1, .int p1)]) hx hb dX6_madeUpBy_4 rfl hl (by decide) rfl (fun ls hl => ?_)
    refine lv_iconst (v := 0) hx hb dX6_madeUpBy_5 (by decide) ?_
    refine lv_istore_n (lv' := [(3, .int 0), (2, .int r5), (0, .ref a0.1), (1, .int p1)]) hx hb dX6_madeUpBy_6 rfl hl (by decide) rfl (fun ls hl => ?_)
    refine lv_iconst (v := 0) hx hb dX6_madeUpBy_7 (by decide) ?_
    refine lv_istore (lv' := [(4, .int 0), (3, .int 0), (2, .int r5), (0, .ref a0.1), (1, .int p1)]) hx hb dX6_madeUpBy_8 hl (by decide) rfl (fun ls hl => ?_)
    exact blk10 4096 _ _ _ _ hf _ _ hP hD hS _ (lv_sub hl [3, 4, 2, 1, 0] rfl)
  exact go _ _ hP hD hS _ hl
abbrev rm_X6_liars : Room := { frames := 8, cells := 0, slots := 0, locals := 190 }
set_option maxHeartbeats 4000000 in
set_option maxRecDepth 100000 in
theorem c_X6_liars (l : Launch) (G : zG) (a0 : AT_X6) (sz : Nat) (S0 : ST_X6) (out : Int32) (hf : f_X6_liars S0 = some out) : Met l yX6_liars wsX6_liars rm_X6_liars (PcM G (ce_X6 G.2.1 a0 S0) [.ref a0.1] sz) (QRo G (ce_X6 G.2.1 a0 S0) out (va_A (ce_X6 G.2.1 a0 S0) sz)) 0 0 (va_A (ce_X6 G.2.1 a0 S0) sz) := by
  rw [f_X6_liars] at hf
  refine Met.ofW (cc := cX6_liars) (maxL := 5) (ret := (some .int)) (by decide) rfl ?_
  intro p e s m args below meth c s₁ B hml hv
  obtain ⟨hargs, hsz, hP, hK, hD0, hE⟩ := hv
  have hx := B.exec
  have hb := B.bytes
  have hr := B.returns
  have hts := atoms_spec (ws := wsX6_liars) B.pre
  have hown : s.vm.findClass RX6 = some m.cls := findClass_of_methodNamed B.named
  have hlocks := B.notSynchronized
  subst hsz
  have hD := hD0.self (sz := s.heap.size)
  generalize hAe : va_A (ce_X6 G.2.1 a0 S0) s.heap.size = A at hD hE ⊢
  have hA : ∀ q : Nat, s.heap.size ≤ q → A q := fun q h => by rw [← hAe]; exact Or.inr h
  have hS : va_S A s.heap s.heap [] := va_S.rf
  have hl := lv_entry ([.ref a0.1]) (n := 5) (Nat.le_of_ble_eq_true rfl)
  have hent : entryFrame m args 5 = F0 m 0 ((lg_sl ([.ref a0.1]) ++ List.replicate (5 - (lg_sl ([.ref a0.1])).length) Slot.unset).toArray) [] := by rw [hargs, lg_entry_eq]
  rw [hent]
  clear hent
  generalize (lg_sl ([.ref a0.1]) ++ List.replicate (5 - (lg_sl ([.ref a0.1])).length) Slot.unset).toArray = ls at hl ⊢
  have hl : lv_has ls 5 [(0, .ref a0.1)] := hl
  have fin : ∀ (pc : Nat) (v : Int32) (H : Heap) (locs : List Loc) (ls : Array Slot), some v = some out → va_P G.1 vwCl (ce_X6 G.2.1 a0 S0) H → va_D A (ce_X6 G.2.1 a0 S0) → va_S A s.heap H locs → decode cX6_liars pc = .ok (.ireturn, 1) → W p l e (headSpec wsX6_liars rm_X6_liars).room s m args below meth c H locs 0 0 (MQ below (QRo G (ce_X6 G.2.1 a0 S0) out A) args s 0 0 A) (F0 m pc ls [.int v]) := fun pc v H locs ls ho hP hD hS hd => W.iret (v := v) hx hb hr (fun t ht hW => ⟨⟨v, (), rfl, Option.some.inj ho, by first | (rw [ht]; exact hP) | (dsimp only; rw [ht]; exact hP)⟩, hS.F ht⟩) hS.2.2 hd
  generalize MQ below (QRo G (ce_X6 G.2.1 a0 S0) out A) args s 0 0 A = Q at fin ⊢
  have blk6 : ∀ (fu6 : Nat), ∀ (v1 : Int32) (v2 : Int32) (v3 : Int32), f_X6_liars_b6 S0 fu6 v1 v2 v3 = some out → ∀ (H : Heap) (locs : List Loc), va_P G.1 vwCl (ce_X6 G.2.1 a0 S0) H → va_D A (ce_X6 G.2.1 a0 S0) → va_S A s.heap H locs → ∀ (ls : Array Slot), lv_has ls 5 [(0, .ref a0.1), (1, .int v1), (2, .int v2), (3, .int v3)] → W p l e (headSpec wsX6_liars rm_X6_liars).room s m args below meth c H locs 0 0 Q (F0 m 6 ls []) := by
    intro fu6
    induction fu6 with
    | zero => intro v1 v2 v3 hf; exact ob_none hf
    | succ fu6 ih6 =>
      intro v1 v2 v3 hf H locs hP hD hS ls hl
      rw [f_X6_liars_b6] at hf
      have blk48 : ∀ (v1 : Int32) (v2 : Int32) (v3 : Int32), f_X6_liars_b48 S0 (f_X6_liars_b6 S0 fu6) v1 v2 v3 = some out → ∀ (H : Heap) (locs : List Loc), va_P G.1 vwCl (ce_X6 G.2.1 a0 S0) H → va_D A (ce_X6 G.2.1 a0 S0) → va_S A s.heap H locs → ∀ (ls : Array Slot), lv_has ls 5 [(0, .ref a0.1), (1, .int v1), (2, .int v2), (3, .int v3)] → W p l e (headSpec wsX6_liars rm_X6_liars).room s m args below meth c H locs 0 0 Q (F0 m 48 ls []) := by
        intro v1 v2 v3 hf H locs hP hD hS ls hl
        rw [f_X6_liars_b48] at hf
        refine lv_iinc (v := v3 + 1) (lv' := [(3, .int (v3 + 1)), (0, .ref a0.1), (1, .int v1), (2, .int v2)]) hx hb dX6_liars_48 hl (k := 3) rfl rfl (by decide) rfl (fun ls hl => ?_)
        refine lv_goto (tgt := 6) hx hb dX6_liars_51 (by decide) ?_
        exact ih6 _ _ _ hf _ _ hP hD hS _ (lv_sub hl [1, 2, 3, 0] rfl)
      have blk44 : ∀ (v3 : Int32) (v4 : Int32) (w0 : Int32), f_X6_liars_b44 S0 (f_X6_liars_b6 S0 fu6) v3 v4 w0 = some out → ∀ (H : Heap) (locs : List Loc), va_P G.1 vwCl (ce_X6 G.2.1 a0 S0) H → va_D A (ce_X6 G.2.1 a0 S0) → va_S A s.heap H locs → ∀ (ls : Array Slot), lv_has ls 5 [(0, .ref a0.1), (3, .int v3), (4, .int v4)] → W p l e (headSpec wsX6_liars rm_X6_liars).room s m args below meth c H locs 0 0 Q (F0 m 44 ls [.int w0]) := by
        intro v3 v4 w0 hf H locs hP hD hS ls hl
        rw [f_X6_liars_b44] at hf
        refine lv_istore_n (lv' := [(2, .int w0), (0, .ref a0.1), (3, .int v3), (4, .int v4)]) hx hb dX6_liars_44 rfl hl (by decide) rfl (fun ls hl => ?_)
        refine lv_iload hx hb dX6_liars_45 (lv_at hl 3 rfl) ?_
        refine lv_istore_n (lv' := [(1, .int v4), (2, .int w0), (0, .ref a0.1), (3, .int v3), (4, .int v4)]) hx hb dX6_liars_47 rfl hl (by decide) rfl (fun ls hl => ?_)
        exact blk48 _ _ _ hf _ _ hP hD hS _ (lv_sub hl [2, 0, 1, 3] rfl)
      refine lv_iload_n hx hb dX6_liars_6 rfl (lv_at hl 3 rfl) ?_
      refine lv_iconst (v := 4) hx hb dX6_liars_7 (by decide) ?_
      refine lv_icmp_ge (tgt := 54) hx hb dX6_liars_8 (by decide) (fun c1 => ?_) (fun c1 => ?_)
      · replace hf := ob_pos c1 hf
        refine lv_iload_n hx hb dX6_liars_54 rfl (lv_at hl 2 rfl) ?_
        exact fin _ _ _ _ _ hf hP hD hS dX6_liars_55
      · replace hf := ob_neg c1 hf
        refine lv_aload_n hx hb dX6_liars_11 rfl (lv_at hl 0 rfl) ?_
        refine lv_iload_n hx hb dX6_liars_12 rfl (lv_at hl 3 rfl) ?_
        obtain ⟨r2, hr2, hf⟩ := ob_bind hf
        have hFc := va_free (wc := ce_X6 G.2.1 a0 S0) hD hS hA [0, 1, 2, 3, 4, 5, 6, 7, 8, 9] rfl
        refine zc_ro (va_runV (As := [.int v3]) (rest := []) ⟨hx, hb, hml, hown, hts⟩ (c_X6_madeUpBy l G a0 H.size S0 v3 _ hr2) (cwV 1 hts gX6_liars_X6_madeUpBy rfl rfl rfl (by decide +kernel) ⟨Nat.le_of_ble_eq_true rfl, Nat.le_of_ble_eq_true rfl⟩) ⟨PcM.blind, va_recv hK hP (ci := 6) (q0 := 0) rfl rfl, PcM.ok hP hD hK hE hS hFc⟩ rfl rfl hl.1 rfl (lv_room (Nat.le_of_ble_eq_true rfl)) dX6_liars_13 ⟨Nat.le_refl _, Nat.le_refl _⟩) hP hD hS hA [0, 1, 2, 3, 4, 5, 6, 7, 8, 9] rfl (fun H locs hP hS => ?_)
        refine lv_istore (lv' := [(4, .int r2), (0, .ref a0.1), (1, .int v1), (2, .int v2), (3, .int v3)]) hx hb dX6_liars_16 hl (by decide) rfl (fun ls hl => ?_)
        refine lv_iload hx hb dX6_liars_18 (lv_at hl 0 rfl) ?_
        refine lv_iload_n hx hb dX6_liars_20 rfl (lv_at hl 2 rfl) ?_
        refine lv_icmp_ge (tgt := 27) hx hb dX6_liars_21 (by decide) (fun c3 => ?_) (fun c3 => ?_)
        · replace hf := ob_pos c3 hf
          refine lv_iload hx hb dX6_liars_27 (lv_at hl 0 rfl) ?_
          refine lv_iload_n hx hb dX6_liars_29 rfl (lv_at hl 2 rfl) ?_
          refine lv_icmp_le (tgt := 39) hx hb dX6_liars_30 (by decide) (fun c4 => ?_) (fun c4 => ?_)
          · replace hf := ob_pos c4 hf
            refine lv_iload_n hx hb dX6_liars_39 rfl (lv_at hl 3 rfl) ?_
            refine lv_iconst (v := 1) hx hb dX6_liars_40 (by decide) ?_
            refine lv_iload_n hx hb dX6_liars_41 rfl (lv_at hl 4 rfl) ?_
            refine lv_ishl hx hb dX6_liars_42 ?_
            refine lv_ior hx hb dX6_liars_43 ?_
            exact blk44 _ _ _ hf _ _ hP hD hS _ (lv_sub hl [1, 4, 0] rfl)
          · replace hf := ob_neg c4 hf
            refine lv_iconst (v := 1) hx hb dX6_liars_33 (by decide) ?_
            refine lv_iload_n hx hb dX6_liars_34 rfl (lv_at hl 4 rfl) ?_
            refine lv_ishl hx hb dX6_liars_35 ?_
            refine lv_goto (tgt := 44) hx hb dX6_liars_36 (by decide) ?_
            exact blk44 _ _ _ hf _ _ hP hD hS _ (lv_sub hl [1, 4, 0] rfl)
        · replace hf := ob_neg c3 hf
          refine lv_goto (tgt := 48) hx hb dX6_liars_24 (by decide) ?_
          exact blk48 _ _ _ hf _ _ hP hD hS _ (lv_sub hl [1, 2, 3, 4] rfl)
  have go : ∀ (H : Heap) (locs : List Loc), va_P G.1 vwCl (ce_X6 G.2.1 a0 S0) H → va_D A (ce_X6 G.2.1 a0 S0) → va_S A s.heap H locs → ∀ (ls : Array Slot), lv_has ls 5 [(0, .ref a0.1)] → W p l e (headSpec wsX6_liars rm_X6_liars).room s m args below meth c H locs 0 0 Q (F0 m 0 ls []) := by
    intro H locs hP hD hS ls hl
    refine lv_iconst (v := 1) hx hb dX6_liars_0 (by decide) ?_
    refine lv_istore_n (lv' := [(1, .int 1), (0, .ref a0.1)]) hx hb dX6_liars_1 rfl hl (by decide) rfl (fun ls hl => ?_)
    refine lv_iconst (v := 0) hx hb dX6_liars_2 (by decide) ?_
    refine lv_istore_n (lv' := [(2, .int 0), (1, .int 1), (0, .ref a0.1)]) hx hb dX6_liars_3 rfl hl (by decide) rfl (fun ls hl => ?_)
    refine lv_iconst (v := 0) hx hb dX6_liars_4 (by decide) ?_
    refine lv_istore_n (lv' := [(3, .int 0), (2, .int 0), (1, .int 1), (0, .ref a0.1)]) hx hb dX6_liars_5 rfl hl (by decide) rfl (fun ls hl => ?_)
    exact blk6 4096 _ _ _ hf _ _ hP hD hS _ (lv_sub hl [3, 2, 1, 0] rfl)
  exact go _ _ hP hD hS _ hl
abbrev rm_X6_clash : Room := { frames := 2, cells := 0, slots := 0, locals := 46 }
set_option maxHeartbeats 4000000 in
set_option maxRecDepth 100000 in
theorem c_X6_clash (l : Launch) (G : zG) (a0 : AT_X6) (sz : Nat) (S0 : ST_X6) (p1 : Int32) (out : Int32 × ST_X6) (hf : f_X6_clash S0 p1 = some out) : Met l yX6_clash wsX6_clash rm_X6_clash (PcM G (ce_X6 G.2.1 a0 S0) [.ref a0.1, .int p1] sz) (QWr G (fun u => ce_X6 G.2.1 a0 u) out (va_A (ce_X6 G.2.1 a0 S0) sz)) 0 0 (va_A (ce_X6 G.2.1 a0 S0) sz) := by
  rw [f_X6_clash] at hf
  refine Met.ofW (cc := cX6_clash) (maxL := 6) (ret := (some .int)) (by decide) rfl ?_
  intro p e s m args below meth c s₁ B hml hv
  obtain ⟨hargs, hsz, hP, hK, hD0, hE⟩ := hv
  have hx := B.exec
  have hb := B.bytes
  have hr := B.returns
  have hts := atoms_spec (ws := wsX6_clash) B.pre
  have hown : s.vm.findClass RX6 = some m.cls := findClass_of_methodNamed B.named
  have hlocks := B.notSynchronized
  subst hsz
  have hD := hD0.self (sz := s.heap.size)
  generalize hAe : va_A (ce_X6 G.2.1 a0 S0) s.heap.size = A at hD hE ⊢
  have hA : ∀ q : Nat, s.heap.size ≤ q → A q := fun q h => by rw [← hAe]; exact Or.inr h
  have hS : va_S A s.heap s.heap [] := va_S.rf
  have hl := lv_entry ([.ref a0.1, .int p1]) (n := 6) (Nat.le_of_ble_eq_true rfl)
  have hent : entryFrame m args 6 = F0 m 0 ((lg_sl ([.ref a0.1, .int p1]) ++ List.replicate (6 - (lg_sl ([.ref a0.1, .int p1])).length) Slot.unset).toArray) [] := by rw [hargs, lg_entry_eq]
  rw [hent]
  clear hent
  generalize (lg_sl ([.ref a0.1, .int p1]) ++ List.replicate (6 - (lg_sl ([.ref a0.1, .int p1])).length) Slot.unset).toArray = ls at hl ⊢
  have hl : lv_has ls 6 [(0, .ref a0.1), (1, .int p1)] := hl
  have lk0 := hts (Cond.fieldLink RX6 13 "EnginesOnListModel" "s" "[I") (List.mem_of_getElem? (i := 1) rfl)
  have hinX6 : ∀ w ∈ wsX60, w ∈ wsX6_clash := by decide +kernel
  have fin : ∀ (pc : Nat) (v : Int32) (u : ST_X6) (H : Heap) (locs : List Loc) (ls : Array Slot), some (v, u) = some out → va_P G.1 vwCl (ce_X6 G.2.1 a0 u) H → va_D A (ce_X6 G.2.1 a0 u) → va_S A s.heap H locs → decode cX6_clash pc = .ok (.ireturn, 1) → W p l e (headSpec wsX6_clash rm_X6_clash).room s m args below meth c H locs 0 0 (MQ below (QWr G (fun u => ce_X6 G.2.1 a0 u) out A) args s 0 0 A) (F0 m pc ls [.int v]) := fun pc v u H locs ls ho hP hD hS hd => W.iret (v := v) hx hb hr (fun t ht hW => ⟨⟨v, u, rfl, ob_pair ho, by first | (rw [ht]; exact hP) | (dsimp only; rw [ht]; exact hP), hD⟩, hS.F ht⟩) hS.2.2 hd
  generalize MQ below (QWr G (fun u => ce_X6 G.2.1 a0 u) out A) args s 0 0 A = Q at fin ⊢
  have blk23 : ∀ (fu23 : Nat), ∀ (S0 : ST_X6) (v1 : Int32) (v2 : Int32) (v3 : Int32) (v4 : Int32), f_X6_clash_b23 fu23 S0 v1 v2 v3 v4 = some out → ∀ (H : Heap) (locs : List Loc), va_P G.1 vwCl (ce_X6 G.2.1 a0 S0) H → va_D A (ce_X6 G.2.1 a0 S0) → va_S A s.heap H locs → ∀ (ls : Array Slot), lv_has ls 6 [(0, .ref a0.1), (1, .int v1), (2, .int v2), (3, .int v3), (4, .int v4)] → W p l e (headSpec wsX6_clash rm_X6_clash).room s m args below meth c H locs 0 0 Q (F0 m 23 ls []) := by
    intro fu23
    induction fu23 with
    | zero => intro S0 v1 v2 v3 v4 hf; exact ob_none hf
    | succ fu23 ih23 =>
      intro S0 v1 v2 v3 v4 hf H locs hP hD hS ls hl
      rw [f_X6_clash_b23] at hf
      have blk40 : ∀ (fu40 : Nat), ∀ (S0 : ST_X6) (v1 : Int32) (v2 : Int32) (v3 : Int32) (v4 : Int32) (v5 : Int32), f_X6_clash_b40 (f_X6_clash_b23 fu23) fu40 S0 v1 v2 v3 v4 v5 = some out → ∀ (H : Heap) (locs : List Loc), va_P G.1 vwCl (ce_X6 G.2.1 a0 S0) H → va_D A (ce_X6 G.2.1 a0 S0) → va_S A s.heap H locs → ∀ (ls : Array Slot), lv_has ls 6 [(0, .ref a0.1), (1, .int v1), (2, .int v2), (3, .int v3), (4, .int v4), (5, .int v5)] → W p l e (headSpec wsX6_clash rm_X6_clash).room s m args below meth c H locs 0 0 Q (F0 m 40 ls []) := by
        intro fu40
        induction fu40 with
        | zero => intro S0 v1 v2 v3 v4 v5 hf; exact ob_none hf
        | succ fu40 ih40 =>
          intro S0 v1 v2 v3 v4 v5 hf H locs hP hD hS ls hl
          rw [f_X6_clash_b40] at hf
          have blk125 : ∀ (S0 : ST_X6) (v1 : Int32) (v2 : Int32) (v3 : Int32) (v4 : Int32) (v5 : Int32), f_X6_clash_b125 (f_X6_clash_b23 fu23) (f_X6_clash_b40 (f_X6_clash_b23 fu23) fu40) S0 v1 v2 v3 v4 v5 = some out → ∀ (H : Heap) (locs : List Loc), va_P G.1 vwCl (ce_X6 G.2.1 a0 S0) H → va_D A (ce_X6 G.2.1 a0 S0) → va_S A s.heap H locs → ∀ (ls : Array Slot), lv_has ls 6 [(0, .ref a0.1), (1, .int v1), (2, .int v2), (3, .int v3), (4, .int v4), (5, .int v5)] → W p l e (headSpec wsX6_clash rm_X6_clash).room s m args below meth c H locs 0 0 Q (F0 m 125 ls []) := by
            intro S0 v1 v2 v3 v4 v5 hf H locs hP hD hS ls hl
            rw [f_X6_clash_b125] at hf
            refine lv_iinc (v := v5 + 1) (lv' := [(5, .int (v5 + 1)), (0, .ref a0.1), (1, .int v1), (2, .int v2), (3, .int v3), (4, .int v4)]) hx hb dX6_clash_125 hl (k := 5) rfl rfl (by decide) rfl (fun ls hl => ?_)
            refine lv_goto (tgt := 40) hx hb dX6_clash_128 (by decide) ?_
            exact ih40 _ _ _ _ _ _ hf _ _ hP hD hS _ (lv_sub hl [1, 2, 3, 4, 5, 0] rfl)
          have blk124 : ∀ (S0 : ST_X6) (v1 : Int32) (v2 : Int32) (v4 : Int32) (v5 : Int32) (w0 : Int32), f_X6_clash_b124 (f_X6_clash_b23 fu23) (f_X6_clash_b40 (f_X6_clash_b23 fu23) fu40) S0 v1 v2 v4 v5 w0 = some out → ∀ (H : Heap) (locs : List Loc), va_P G.1 vwCl (ce_X6 G.2.1 a0 S0) H → va_D A (ce_X6 G.2.1 a0 S0) → va_S A s.heap H locs → ∀ (ls : Array Slot), lv_has ls 6 [(0, .ref a0.1), (1, .int v1), (2, .int v2), (4, .int v4), (5, .int v5)] → W p l e (headSpec wsX6_clash rm_X6_clash).room s m args below meth c H locs 0 0 Q (F0 m 124 ls [.int w0]) := by
            intro S0 v1 v2 v4 v5 w0 hf H locs hP hD hS ls hl
            rw [f_X6_clash_b124] at hf
            refine lv_istore_n (lv' := [(3, .int w0), (0, .ref a0.1), (1, .int v1), (2, .int v2), (4, .int v4), (5, .int v5)]) hx hb dX6_clash_124 rfl hl (by decide) rfl (fun ls hl => ?_)
            exact blk125 _ _ _ _ _ _ hf _ _ hP hD hS _ (lv_sub hl [1, 2, 3, 0, 4, 5] rfl)
          refine lv_iload hx hb dX6_clash_40 (lv_at hl 5 rfl) ?_
          refine lv_aload_n hx hb dX6_clash_42 rfl (lv_at hl 0 rfl) ?_
          refine va_get (D := G.1) (ci := 6) (v := .ref a0.2.2.1) (C := RX6) (T := TX6) (N := 14) hx hb hts hinX6 hown hK hP 0 rfl rfl 1 (by decide) lk0 (fun _ h9 => h9) rfl dX6_clash_43 ?_
          refine lv_iconst (v := 4) hx hb dX6_clash_46 (by decide) ?_
          refine va_iald hx hb hK hP 2 0 rfl rfl (by decide : inB 4 130) dX6_clash_47 ?_
          refine zl_top (y := S0.2.1 4) rfl ?_
          refine lv_icmp_ge (tgt := 131) hx hb dX6_clash_48 (by decide) (fun c1 => ?_) (fun c1 => ?_)
          · replace hf := ob_pos c1 hf
            refine lv_iinc (v := v4 + 1) (lv' := [(4, .int (v4 + 1)), (0, .ref a0.1), (1, .int v1), (2, .int v2), (3, .int v3), (5, .int v5)]) hx hb dX6_clash_131 hl (k := 4) rfl rfl (by decide) rfl (fun ls hl => ?_)
            refine lv_goto (tgt := 23) hx hb dX6_clash_134 (by decide) ?_
            exact ih23 _ _ _ _ _ hf _ _ hP hD hS _ (lv_sub hl [1, 2, 3, 4, 0] rfl)
          · replace hf := ob_neg c1 hf
            refine lv_aload_n hx hb dX6_clash_51 rfl (lv_at hl 0 rfl) ?_
            refine lv_iload hx hb dX6_clash_52 (lv_at hl 4 rfl) ?_
            refine lv_iconst (v := 2) hx hb dX6_clash_54 (by decide) ?_
            obtain ⟨r2, hr2, hf⟩ := ob_bind hf
            have hFc := va_free (wc := ce_X6 G.2.1 a0 S0) hD hS hA [0, 1, 2, 3, 4, 5, 6, 7, 8, 9] rfl
            refine zc_ro (va_runV (As := [.int v4, .int 2]) (rest := []) ⟨hx, hb, hml, hown, hts⟩ (c_X6_in l G a0 H.size S0 v4 2 _ hr2) (cwV 2 hts gX6_clash_X6_in rfl rfl rfl (by decide +kernel) ⟨Nat.le_of_ble_eq_true rfl, Nat.le_of_ble_eq_true rfl⟩) ⟨PcM.blind, va_recv hK hP (ci := 6) (q0 := 0) rfl rfl, PcM.ok hP hD hK hE hS hFc⟩ rfl rfl hl.1 rfl (lv_room (Nat.le_of_ble_eq_true rfl)) dX6_clash_55 ⟨Nat.le_refl _, Nat.le_refl _⟩) hP hD hS hA [0, 1, 2, 3, 4, 5, 6, 7, 8, 9] rfl (fun H locs hP hS => ?_)
            refine lv_aload_n hx hb dX6_clash_58 rfl (lv_at hl 0 rfl) ?_
            refine lv_iload hx hb dX6_clash_59 (lv_at hl 5 rfl) ?_
            refine lv_iconst (v := 2) hx hb dX6_clash_61 (by decide) ?_
            obtain ⟨r3, hr3, hf⟩ := ob_bind hf
            have hFc := va_free (wc := ce_X6 G.2.1 a0 S0) hD hS hA [0, 1, 2, 3, 4, 5, 6, 7, 8, 9] rfl
            refine zc_ro (va_runV (As := [.int v5, .int 2]) (rest := [.int r2]) ⟨hx, hb, hml, hown, hts⟩ (c_X6_in l G a0 H.size S0 v5 2 _ hr3) (cwV 2 hts gX6_clash_X6_in rfl rfl rfl (by decide +kernel) ⟨Nat.le_of_ble_eq_true rfl, Nat.le_of_ble_eq_true rfl⟩) ⟨PcM.blind, va_recv hK hP (ci := 6) (q0 := 0) rfl rfl, PcM.ok hP hD hK hE hS hFc⟩ rfl rfl hl.1 rfl (lv_room (Nat.le_of_ble_eq_true rfl)) dX6_clash_62 ⟨Nat.le_refl _, Nat.le_refl _⟩) hP hD hS hA [0, 1, 2, 3, 4, 5, 6, 7, 8, 9] rfl (fun H locs hP hS => ?_)
            refine lv_icmp_ne (tgt := 125) hx hb dX6_clash_65 (by decide) (fun c4 => ?_) (fun c4 => ?_)
            · replace hf := ob_neg c4 hf
              exact blk125 _ _ _ _ _ _ hf _ _ hP hD hS _ (lv_sub hl [0, 1, 2, 3, 4, 5] rfl)
            · replace hf := ob_pos c4 hf
              refine lv_aload_n hx hb dX6_clash_68 rfl (lv_at hl 0 rfl) ?_
              refine lv_iload hx hb dX6_clash_69 (lv_at hl 4 rfl) ?_
              refine lv_iconst (v := 0) hx hb dX6_clash_71 (by decide) ?_
              obtain ⟨r5, hr5, hf⟩ := ob_bind hf
              have hFc := va_free (wc := ce_X6 G.2.1 a0 S0) hD hS hA [0, 1, 2, 3, 4, 5, 6, 7, 8, 9] rfl
              refine zc_ro (va_runV (As := [.int v4, .int 0]) (rest := []) ⟨hx, hb, hml, hown, hts⟩ (c_X6_in l G a0 H.size S0 v4 0 _ hr5) (cwV 2 hts gX6_clash_X6_in rfl rfl rfl (by decide +kernel) ⟨Nat.le_of_ble_eq_true rfl, Nat.le_of_ble_eq_true rfl⟩) ⟨PcM.blind, va_recv hK hP (ci := 6) (q0 := 0) rfl rfl, PcM.ok hP hD hK hE hS hFc⟩ rfl rfl hl.1 rfl (lv_room (Nat.le_of_ble_eq_true rfl)) dX6_clash_72 ⟨Nat.le_refl _, Nat.le_refl _⟩) hP hD hS hA [0, 1, 2, 3, 4, 5, 6, 7, 8, 9] rfl (fun H locs hP hS => ?_)
              refine lv_aload_n hx hb dX6_clash_75 rfl (lv_at hl 0 rfl) ?_
              refine lv_iload hx hb dX6_clash_76 (lv_at hl 5 rfl) ?_
              refine lv_iconst (v := 0) hx hb dX6_clash_78 (by decide) ?_
              obtain ⟨r6, hr6, hf⟩ := ob_bind hf
              have hFc := va_free (wc := ce_X6 G.2.1 a0 S0) hD hS hA [0, 1, 2, 3, 4, 5, 6, 7, 8, 9] rfl
              refine zc_ro (va_runV (As := [.int v5, .int 0]) (rest := [.int r5]) ⟨hx, hb, hml, hown, hts⟩ (c_X6_in l G a0 H.size S0 v5 0 _ hr6) (cwV 2 hts gX6_clash_X6_in rfl rfl rfl (by decide +kernel) ⟨Nat.le_of_ble_eq_true rfl, Nat.le_of_ble_eq_true rfl⟩) ⟨PcM.blind, va_recv hK hP (ci := 6) (q0 := 0) rfl rfl, PcM.ok hP hD hK hE hS hFc⟩ rfl rfl hl.1 rfl (lv_room (Nat.le_of_ble_eq_true rfl)) dX6_clash_79 ⟨Nat.le_refl _, Nat.le_refl _⟩) hP hD hS hA [0, 1, 2, 3, 4, 5, 6, 7, 8, 9] rfl (fun H locs hP hS => ?_)
              refine lv_icmp_ne (tgt := 125) hx hb dX6_clash_82 (by decide) (fun c7 => ?_) (fun c7 => ?_)
              · replace hf := ob_neg c7 hf
                exact blk125 _ _ _ _ _ _ hf _ _ hP hD hS _ (lv_sub hl [0, 1, 2, 3, 4, 5] rfl)
              · replace hf := ob_pos c7 hf
                refine lv_aload_n hx hb dX6_clash_85 rfl (lv_at hl 0 rfl) ?_
                refine lv_iload hx hb dX6_clash_86 (lv_at hl 4 rfl) ?_
                refine lv_iconst (v := 1) hx hb dX6_clash_88 (by decide) ?_
                obtain ⟨r8, hr8, hf⟩ := ob_bind hf
                have hFc := va_free (wc := ce_X6 G.2.1 a0 S0) hD hS hA [0, 1, 2, 3, 4, 5, 6, 7, 8, 9] rfl
                refine zc_ro (va_runV (As := [.int v4, .int 1]) (rest := []) ⟨hx, hb, hml, hown, hts⟩ (c_X6_in l G a0 H.size S0 v4 1 _ hr8) (cwV 2 hts gX6_clash_X6_in rfl rfl rfl (by decide +kernel) ⟨Nat.le_of_ble_eq_true rfl, Nat.le_of_ble_eq_true rfl⟩) ⟨PcM.blind, va_recv hK hP (ci := 6) (q0 := 0) rfl rfl, PcM.ok hP hD hK hE hS hFc⟩ rfl rfl hl.1 rfl (lv_room (Nat.le_of_ble_eq_true rfl)) dX6_clash_89 ⟨Nat.le_refl _, Nat.le_refl _⟩) hP hD hS hA [0, 1, 2, 3, 4, 5, 6, 7, 8, 9] rfl (fun H locs hP hS => ?_)
                refine lv_aload_n hx hb dX6_clash_92 rfl (lv_at hl 0 rfl) ?_
                refine lv_iload hx hb dX6_clash_93 (lv_at hl 5 rfl) ?_
                refine lv_iconst (v := 1) hx hb dX6_clash_95 (by decide) ?_
                obtain ⟨r9, hr9, hf⟩ := ob_bind hf
                have hFc := va_free (wc := ce_X6 G.2.1 a0 S0) hD hS hA [0, 1, 2, 3, 4, 5, 6, 7, 8, 9] rfl
                refine zc_ro (va_runV (As := [.int v5, .int 1]) (rest := [.int r8]) ⟨hx, hb, hml, hown, hts⟩ (c_X6_in l G a0 H.size S0 v5 1 _ hr9) (cwV 2 hts gX6_clash_X6_in rfl rfl rfl (by decide +kernel) ⟨Nat.le_of_ble_eq_true rfl, Nat.le_of_ble_eq_true rfl⟩) ⟨PcM.blind, va_recv hK hP (ci := 6) (q0 := 0) rfl rfl, PcM.ok hP hD hK hE hS hFc⟩ rfl rfl hl.1 rfl (lv_room (Nat.le_of_ble_eq_true rfl)) dX6_clash_96 ⟨Nat.le_refl _, Nat.le_refl _⟩) hP hD hS hA [0, 1, 2, 3, 4, 5, 6, 7, 8, 9] rfl (fun H locs hP hS => ?_)
                refine lv_icmp_ne (tgt := 105) hx hb dX6_clash_99 (by decide) (fun c10 => ?_) (fun c10 => ?_)
                · replace hf := ob_neg c10 hf
                  refine lv_iinc (v := v2 + 1) (lv' := [(2, .int (v2 + 1)), (0, .ref a0.1), (1, .int v1), (3, .int v3), (4, .int v4), (5, .int v5)]) hx hb dX6_clash_105 hl (k := 2) rfl rfl (by decide) rfl (fun ls hl => ?_)
                  refine lv_iload_n hx hb dX6_clash_108 rfl (lv_at hl 3 rfl) ?_
                  refine lv_if_ge (tgt := 123) hx hb dX6_clash_109 (by decide) (fun c11 => ?_) (fun c11 => ?_)
                  · replace hf := ob_pos c11 hf
                    refine lv_iload_n hx hb dX6_clash_123 rfl (lv_at hl 3 rfl) ?_
                    exact blk124 _ _ _ _ _ _ hf _ _ hP hD hS _ (lv_sub hl [1, 2, 0, 4, 5] rfl)
                  · replace hf := ob_neg c11 hf
                    refine lv_bipush (v := 12) hx hb dX6_clash_112 (by decide) ?_
                    refine lv_iload hx hb dX6_clash_114 (lv_at hl 4 rfl) ?_
                    refine lv_imul hx hb dX6_clash_116 ?_
                    refine lv_iload hx hb dX6_clash_117 (lv_at hl 5 rfl) ?_
                    refine lv_iadd hx hb dX6_clash_119 ?_
                    refine lv_goto (tgt := 124) hx hb dX6_clash_120 (by decide) ?_
                    exact blk124 _ _ _ _ _ _ hf _ _ hP hD hS _ (lv_sub hl [1, 2, 0, 4, 5] rfl)
                · replace hf := ob_pos c10 hf
                  refine lv_goto (tgt := 125) hx hb dX6_clash_102 (by decide) ?_
                  exact blk125 _ _ _ _ _ _ hf _ _ hP hD hS _ (lv_sub hl [0, 1, 2, 3, 4, 5] rfl)
      refine lv_iload hx hb dX6_clash_23 (lv_at hl 4 rfl) ?_
      refine lv_aload_n hx hb dX6_clash_25 rfl (lv_at hl 0 rfl) ?_
      refine va_get (D := G.1) (ci := 6) (v := .ref a0.2.2.1) (C := RX6) (T := TX6) (N := 14) hx hb hts hinX6 hown hK hP 0 rfl rfl 1 (by decide) lk0 (fun _ h9 => h9) rfl dX6_clash_26 ?_
      refine lv_iconst (v := 4) hx hb dX6_clash_29 (by decide) ?_
      refine va_iald hx hb hK hP 2 0 rfl rfl (by decide : inB 4 130) dX6_clash_30 ?_
      refine zl_top (y := S0.2.1 4) rfl ?_
      refine lv_icmp_ge (tgt := 137) hx hb dX6_clash_31 (by decide) (fun c12 => ?_) (fun c12 => ?_)
      · replace hf := ob_pos c12 hf
        refine lv_iload_n hx hb dX6_clash_137 rfl (lv_at hl 1 rfl) ?_
        refine lv_if_ne (tgt := 145) hx hb dX6_clash_138 (by decide) (fun c13 => ?_) (fun c13 => ?_)
        · replace hf := ob_neg c13 hf
          refine lv_iload_n hx hb dX6_clash_145 rfl (lv_at hl 3 rfl) ?_
          exact fin _ _ _ _ _ _ hf hP hD hS dX6_clash_146
        · replace hf := ob_pos c13 hf
          refine lv_iload_n hx hb dX6_clash_141 rfl (lv_at hl 2 rfl) ?_
          refine lv_goto (tgt := 146) hx hb dX6_clash_142 (by decide) ?_
          exact fin _ _ _ _ _ _ hf hP hD hS dX6_clash_146
      · replace hf := ob_neg c12 hf
        refine lv_iload hx hb dX6_clash_34 (lv_at hl 4 rfl) ?_
        refine lv_iconst (v := 1) hx hb dX6_clash_36 (by decide) ?_
        refine lv_iadd hx hb dX6_clash_37 ?_
        refine lv_istore (lv' := [(5, .int (v4 + 1)), (0, .ref a0.1), (1, .int v1), (2, .int v2), (3, .int v3), (4, .int v4)]) hx hb dX6_clash_38 hl (by decide) rfl (fun ls hl => ?_)
        exact blk40 4096 _ _ _ _ _ _ hf _ _ hP hD hS _ (lv_sub hl [1, 2, 3, 4, 5, 0] rfl)
  have go : ∀ (H : Heap) (locs : List Loc), va_P G.1 vwCl (ce_X6 G.2.1 a0 S0) H → va_D A (ce_X6 G.2.1 a0 S0) → va_S A s.heap H locs → ∀ (ls : Array Slot), lv_has ls 6 [(0, .ref a0.1), (1, .int p1)] → W p l e (headSpec wsX6_clash rm_X6_clash).room s m args below meth c H locs 0 0 Q (F0 m 0 ls []) := by
    intro H locs hP hD hS ls hl
    refine lv_iload_n hx hb dX6_clash_0 rfl (lv_at hl 1 rfl) ?_
    refine lv_iconst (v := 2) hx hb dX6_clash_1 (by decide) ?_
    obtain ⟨r14, hr14, hf⟩ := ob_bind hf
    have hPc : va_P G.1 vwCl (([] : va_W)) H := hP.sub [] rfl
    have hDc : va_D A (([] : va_W)) := hD.sub [] (by decide) rfl
    have hFc := va_free (wc := ([] : va_W)) hD hS hA [] rfl
    refine zc_ro (va_runS (As := [.int p1, .int 2]) (rest := []) ⟨hx, hb, hml, hown, hts⟩ (c_X6_isIn l G H.size p1 2 _ hr14) (va_cwS 2 hts gX6_clash_X6_isIn rfl rfl rfl (by decide +kernel) ⟨Nat.le_of_ble_eq_true rfl, Nat.le_of_ble_eq_true rfl⟩) ⟨PcM.blind, PcM.ok hPc hDc hK hE hS hFc⟩ rfl rfl hl.1 rfl (lv_room (Nat.le_of_ble_eq_true rfl)) dX6_clash_2 ⟨Nat.le_refl _, Nat.le_refl _⟩) hP hD hS hA [] rfl (fun H locs hP hS => ?_)
    refine lv_if_ne (tgt := 15) hx hb dX6_clash_5 (by decide) (fun c15 => ?_) (fun c15 => ?_)
    · replace hf := ob_neg c15 hf
      refine lv_iconst (v := 0) hx hb dX6_clash_15 (by decide) ?_
      refine lv_istore_n (lv' := [(2, .int 0), (0, .ref a0.1), (1, .int p1)]) hx hb dX6_clash_16 rfl hl (by decide) rfl (fun ls hl => ?_)
      refine lv_bipush (v := (-9)) hx hb dX6_clash_17 (by decide) ?_
      refine lv_istore_n (lv' := [(3, .int (-9)), (2, .int 0), (0, .ref a0.1), (1, .int p1)]) hx hb dX6_clash_19 rfl hl (by decide) rfl (fun ls hl => ?_)
      refine lv_iconst (v := 0) hx hb dX6_clash_20 (by decide) ?_
      refine lv_istore (lv' := [(4, .int 0), (3, .int (-9)), (2, .int 0), (0, .ref a0.1), (1, .int p1)]) hx hb dX6_clash_21 hl (by decide) rfl (fun ls hl => ?_)
      exact blk23 4096 _ _ _ _ _ hf _ _ hP hD hS _ (lv_sub hl [3, 4, 2, 1, 0] rfl)
    · replace hf := ob_pos c15 hf
      refine lv_aload_n hx hb dX6_clash_8 rfl (lv_at hl 0 rfl) ?_
      refine lv_bipush (v := (-2)) hx hb dX6_clash_9 (by decide) ?_
      obtain ⟨r16, hr16, hf⟩ := ob_bind hf
      have hFc := va_free (wc := ce_X6 G.2.1 a0 S0) hD hS hA [0, 1, 2, 3, 4, 5, 6, 7, 8, 9] rfl
      refine zc_wr (cf := (fun u => ce_X6 G.2.1 a0 u)) (ws' := ce_X6 G.2.1 a0 r16.2) (va_runV (As := [.int (-2)]) (rest := []) ⟨hx, hb, hml, hown, hts⟩ (c_X6_refuse l G a0 H.size S0 (-2) _ hr16) (cwV 1 hts gX6_clash_X6_refuse rfl rfl rfl (by decide +kernel) ⟨Nat.le_of_ble_eq_true rfl, Nat.le_of_ble_eq_true rfl⟩) ⟨PcM.blind, va_recv hK hP (ci := 6) (q0 := 0) rfl rfl, PcM.ok hP hD hK hE hS hFc⟩ rfl rfl hl.1 rfl (lv_room (Nat.le_of_ble_eq_true rfl)) dX6_clash_11 ⟨Nat.le_refl _, Nat.le_refl _⟩) hP hD hS hA [0, 1, 2, 3, 4, 5, 6, 7, 8, 9] [] [0, 1, 2, 3, 4, 5, 6, 7, 8, 9] rfl rfl (by decide) (by decide) (by decide) rfl (fun H locs hP hD hS => ?_)
      exact fin _ _ _ _ _ _ hf hP hD hS dX6_clash_14
  exact go _ _ hP hD hS _ hl
abbrev rm_X6_sure : Room := { frames := 6, cells := 0, slots := 0, locals := 144 }
set_option maxHeartbeats 4000000 in
set_option maxRecDepth 100000 in
theorem c_X6_sure (l : Launch) (G : zG) (a0 : AT_X6) (sz : Nat) (S0 : ST_X6) (out : Int32) (hf : f_X6_sure S0 = some out) : Met l yX6_sure wsX6_sure rm_X6_sure (PcM G (ce_X6 G.2.1 a0 S0) [.ref a0.1] sz) (QRo G (ce_X6 G.2.1 a0 S0) out (va_A (ce_X6 G.2.1 a0 S0) sz)) 0 0 (va_A (ce_X6 G.2.1 a0 S0) sz) := by
  rw [f_X6_sure] at hf
  refine Met.ofW (cc := cX6_sure) (maxL := 3) (ret := (some .int)) (by decide) rfl ?_
  intro p e s m args below meth c s₁ B hml hv
  obtain ⟨hargs, hsz, hP, hK, hD0, hE⟩ := hv
  have hx := B.exec
  have hb := B.bytes
  have hr := B.returns
  have hts := atoms_spec (ws := wsX6_sure) B.pre
  have hown : s.vm.findClass RX6 = some m.cls := findClass_of_methodNamed B.named
  have hlocks := B.notSynchronized
  subst hsz
  have hD := hD0.self (sz := s.heap.size)
  generalize hAe : va_A (ce_X6 G.2.1 a0 S0) s.heap.size = A at hD hE ⊢
  have hA : ∀ q : Nat, s.heap.size ≤ q → A q := fun q h => by rw [← hAe]; exact Or.inr h
  have hS : va_S A s.heap s.heap [] := va_S.rf
  have hl := lv_entry ([.ref a0.1]) (n := 3) (Nat.le_of_ble_eq_true rfl)
  have hent : entryFrame m args 3 = F0 m 0 ((lg_sl ([.ref a0.1]) ++ List.replicate (3 - (lg_sl ([.ref a0.1])).length) Slot.unset).toArray) [] := by rw [hargs, lg_entry_eq]
  rw [hent]
  clear hent
  generalize (lg_sl ([.ref a0.1]) ++ List.replicate (3 - (lg_sl ([.ref a0.1])).length) Slot.unset).toArray = ls at hl ⊢
  have hl : lv_has ls 3 [(0, .ref a0.1)] := hl
  have lk0 := hts (Cond.fieldLink RX6 13 "EnginesOnListModel" "s" "[I") (List.mem_of_getElem? (i := 1) rfl)
  have hinX6 : ∀ w ∈ wsX60, w ∈ wsX6_sure := by decide +kernel
  have fin : ∀ (pc : Nat) (v : Int32) (H : Heap) (locs : List Loc) (ls : Array Slot), some v = some out → va_P G.1 vwCl (ce_X6 G.2.1 a0 S0) H → va_D A (ce_X6 G.2.1 a0 S0) → va_S A s.heap H locs → decode cX6_sure pc = .ok (.ireturn, 1) → W p l e (headSpec wsX6_sure rm_X6_sure).room s m args below meth c H locs 0 0 (MQ below (QRo G (ce_X6 G.2.1 a0 S0) out A) args s 0 0 A) (F0 m pc ls [.int v]) := fun pc v H locs ls ho hP hD hS hd => W.iret (v := v) hx hb hr (fun t ht hW => ⟨⟨v, (), rfl, Option.some.inj ho, by first | (rw [ht]; exact hP) | (dsimp only; rw [ht]; exact hP)⟩, hS.F ht⟩) hS.2.2 hd
  generalize MQ below (QRo G (ce_X6 G.2.1 a0 S0) out A) args s 0 0 A = Q at fin ⊢
  have blk4 : ∀ (fu4 : Nat), ∀ (v1 : Int32) (v2 : Int32), f_X6_sure_b4 S0 fu4 v1 v2 = some out → ∀ (H : Heap) (locs : List Loc), va_P G.1 vwCl (ce_X6 G.2.1 a0 S0) H → va_D A (ce_X6 G.2.1 a0 S0) → va_S A s.heap H locs → ∀ (ls : Array Slot), lv_has ls 3 [(0, .ref a0.1), (1, .int v1), (2, .int v2)] → W p l e (headSpec wsX6_sure rm_X6_sure).room s m args below meth c H locs 0 0 Q (F0 m 4 ls []) := by
    intro fu4
    induction fu4 with
    | zero => intro v1 v2 hf; exact ob_none hf
    | succ fu4 ih4 =>
      intro v1 v2 hf H locs hP hD hS ls hl
      rw [f_X6_sure_b4] at hf
      have blk36 : ∀ (v1 : Int32) (v2 : Int32), f_X6_sure_b36 S0 (f_X6_sure_b4 S0 fu4) v1 v2 = some out → ∀ (H : Heap) (locs : List Loc), va_P G.1 vwCl (ce_X6 G.2.1 a0 S0) H → va_D A (ce_X6 G.2.1 a0 S0) → va_S A s.heap H locs → ∀ (ls : Array Slot), lv_has ls 3 [(0, .ref a0.1), (1, .int v1), (2, .int v2)] → W p l e (headSpec wsX6_sure rm_X6_sure).room s m args below meth c H locs 0 0 Q (F0 m 36 ls []) := by
        intro v1 v2 hf H locs hP hD hS ls hl
        rw [f_X6_sure_b36] at hf
        refine lv_iinc (v := v2 + 1) (lv' := [(2, .int (v2 + 1)), (0, .ref a0.1), (1, .int v1)]) hx hb dX6_sure_36 hl (k := 2) rfl rfl (by decide) rfl (fun ls hl => ?_)
        refine lv_goto (tgt := 4) hx hb dX6_sure_39 (by decide) ?_
        exact ih4 _ _ hf _ _ hP hD hS _ (lv_sub hl [1, 2, 0] rfl)
      refine lv_iload_n hx hb dX6_sure_4 rfl (lv_at hl 2 rfl) ?_
      refine lv_aload_n hx hb dX6_sure_5 rfl (lv_at hl 0 rfl) ?_
      refine va_get (D := G.1) (ci := 6) (v := .ref a0.2.2.1) (C := RX6) (T := TX6) (N := 14) hx hb hts hinX6 hown hK hP 0 rfl rfl 1 (by decide) lk0 (fun _ h9 => h9) rfl dX6_sure_6 ?_
      refine lv_iconst (v := 4) hx hb dX6_sure_9 (by decide) ?_
      refine va_iald hx hb hK hP 2 0 rfl rfl (by decide : inB 4 130) dX6_sure_10 ?_
      refine zl_top (y := S0.2.1 4) rfl ?_
      refine lv_icmp_ge (tgt := 42) hx hb dX6_sure_11 (by decide) (fun c1 => ?_) (fun c1 => ?_)
      · replace hf := ob_pos c1 hf
        refine lv_iload_n hx hb dX6_sure_42 rfl (lv_at hl 1 rfl) ?_
        exact fin _ _ _ _ _ hf hP hD hS dX6_sure_43
      · replace hf := ob_neg c1 hf
        refine lv_aload_n hx hb dX6_sure_14 rfl (lv_at hl 0 rfl) ?_
        refine lv_iload_n hx hb dX6_sure_15 rfl (lv_at hl 2 rfl) ?_
        refine lv_iconst (v := 0) hx hb dX6_sure_16 (by decide) ?_
        obtain ⟨r2, hr2, hf⟩ := ob_bind hf
        have hFc := va_free (wc := ce_X6 G.2.1 a0 S0) hD hS hA [0, 1, 2, 3, 4, 5, 6, 7, 8, 9] rfl
        refine zc_ro (va_runV (As := [.int v2, .int 0]) (rest := []) ⟨hx, hb, hml, hown, hts⟩ (c_X6_fittingOf l G a0 H.size S0 v2 0 _ hr2) (cwV 2 hts gX6_sure_X6_fittingOf rfl rfl rfl (by decide +kernel) ⟨Nat.le_of_ble_eq_true rfl, Nat.le_of_ble_eq_true rfl⟩) ⟨PcM.blind, va_recv hK hP (ci := 6) (q0 := 0) rfl rfl, PcM.ok hP hD hK hE hS hFc⟩ rfl rfl hl.1 rfl (lv_room (Nat.le_of_ble_eq_true rfl)) dX6_sure_17 ⟨Nat.le_refl _, Nat.le_refl _⟩) hP hD hS hA [0, 1, 2, 3, 4, 5, 6, 7, 8, 9] rfl (fun H locs hP hS => ?_)
        obtain ⟨r3, hr3, hf⟩ := ob_bind hf
        have hPc : va_P G.1 vwCl (([] : va_W)) H := hP.sub [] rfl
        have hDc : va_D A (([] : va_W)) := hD.sub [] (by decide) rfl
        have hFc := va_free (wc := ([] : va_W)) hD hS hA [] rfl
        refine zc_ro (va_runS (As := [.int r2]) (rest := []) ⟨hx, hb, hml, hown, hts⟩ (c_X6_bits l G H.size r2 _ hr3) (va_cwS 1 hts gX6_sure_X6_bits rfl rfl rfl (by decide +kernel) ⟨Nat.le_of_ble_eq_true rfl, Nat.le_of_ble_eq_true rfl⟩) ⟨PcM.blind, PcM.ok hPc hDc hK hE hS hFc⟩ rfl rfl hl.1 rfl (lv_room (Nat.le_of_ble_eq_true rfl)) dX6_sure_20 ⟨Nat.le_refl _, Nat.le_refl _⟩) hP hD hS hA [] rfl (fun H locs hP hS => ?_)
        refine lv_iconst (v := 1) hx hb dX6_sure_23 (by decide) ?_
        refine lv_icmp_ne (tgt := 36) hx hb dX6_sure_24 (by decide) (fun c4 => ?_) (fun c4 => ?_)
        · replace hf := ob_neg c4 hf
          exact blk36 _ _ hf _ _ hP hD hS _ (lv_sub hl [0, 1, 2] rfl)
        · replace hf := ob_pos c4 hf
          refine lv_iload_n hx hb dX6_sure_27 rfl (lv_at hl 1 rfl) ?_
          refine lv_aload_n hx hb dX6_sure_28 rfl (lv_at hl 0 rfl) ?_
          refine lv_iload_n hx hb dX6_sure_29 rfl (lv_at hl 2 rfl) ?_
          refine lv_iconst (v := 0) hx hb dX6_sure_30 (by decide) ?_
          obtain ⟨r5, hr5, hf⟩ := ob_bind hf
          have hFc := va_free (wc := ce_X6 G.2.1 a0 S0) hD hS hA [0, 1, 2, 3, 4, 5, 6, 7, 8, 9] rfl
          refine zc_ro (va_runV (As := [.int v2, .int 0]) (rest := [.int v1]) ⟨hx, hb, hml, hown, hts⟩ (c_X6_fittingOf l G a0 H.size S0 v2 0 _ hr5) (cwV 2 hts gX6_sure_X6_fittingOf rfl rfl rfl (by decide +kernel) ⟨Nat.le_of_ble_eq_true rfl, Nat.le_of_ble_eq_true rfl⟩) ⟨PcM.blind, va_recv hK hP (ci := 6) (q0 := 0) rfl rfl, PcM.ok hP hD hK hE hS hFc⟩ rfl rfl hl.1 rfl (lv_room (Nat.le_of_ble_eq_true rfl)) dX6_sure_31 ⟨Nat.le_refl _, Nat.le_refl _⟩) hP hD hS hA [0, 1, 2, 3, 4, 5, 6, 7, 8, 9] rfl (fun H locs hP hS => ?_)
          refine lv_ior hx hb dX6_sure_34 ?_
          refine lv_istore_n (lv' := [(1, .int (v1 ||| r5)), (0, .ref a0.1), (2, .int v2)]) hx hb dX6_sure_35 rfl hl (by decide) rfl (fun ls hl => ?_)
          exact blk36 _ _ hf _ _ hP hD hS _ (lv_sub hl [1, 0, 2] rfl)
  have go : ∀ (H : Heap) (locs : List Loc), va_P G.1 vwCl (ce_X6 G.2.1 a0 S0) H → va_D A (ce_X6 G.2.1 a0 S0) → va_S A s.heap H locs → ∀ (ls : Array Slot), lv_has ls 3 [(0, .ref a0.1)] → W p l e (headSpec wsX6_sure rm_X6_sure).room s m args below meth c H locs 0 0 Q (F0 m 0 ls []) := by
    intro H locs hP hD hS ls hl
    refine lv_iconst (v := 0) hx hb dX6_sure_0 (by decide) ?_
    refine lv_istore_n (lv' := [(1, .int 0), (0, .ref a0.1)]) hx hb dX6_sure_1 rfl hl (by decide) rfl (fun ls hl => ?_)
    refine lv_iconst (v := 0) hx hb dX6_sure_2 (by decide) ?_
    refine lv_istore_n (lv' := [(2, .int 0), (1, .int 0), (0, .ref a0.1)]) hx hb dX6_sure_3 rfl hl (by decide) rfl (fun ls hl => ?_)
    exact blk4 4096 _ _ hf _ _ hP hD hS _ (lv_sub hl [2, 1, 0] rfl)
  exact go _ _ hP hD hS _ hl
abbrev rm_X6_areTogether : Room := { frames := 4, cells := 0, slots := 0, locals := 92 }
set_option maxHeartbeats 4000000 in
set_option maxRecDepth 100000 in
theorem c_X6_areTogether (l : Launch) (G : zG) (a0 : AT_X6) (sz : Nat) (S0 : ST_X6) (p1 : Int32) (p2 : Int32) (p3 : Int32) (out : Int32) (hf : f_X6_areTogether S0 p1 p2 p3 = some out) : Met l yX6_areTogether wsX6_areTogether rm_X6_areTogether (PcM G (ce_X6 G.2.1 a0 S0) [.ref a0.1, .int p1, .int p2, .int p3] sz) (QRo G (ce_X6 G.2.1 a0 S0) out (va_A (ce_X6 G.2.1 a0 S0) sz)) 0 0 (va_A (ce_X6 G.2.1 a0 S0) sz) := by
  rw [f_X6_areTogether] at hf
  refine Met.ofW (cc := cX6_areTogether) (maxL := 5) (ret := (some .boolean)) (by decide) rfl ?_
  intro p e s m args below meth c s₁ B hml hv
  obtain ⟨hargs, hsz, hP, hK, hD0, hE⟩ := hv
  have hx := B.exec
  have hb := B.bytes
  have hr := B.returns
  have hts := atoms_spec (ws := wsX6_areTogether) B.pre
  have hown : s.vm.findClass RX6 = some m.cls := findClass_of_methodNamed B.named
  have hlocks := B.notSynchronized
  subst hsz
  have hD := hD0.self (sz := s.heap.size)
  generalize hAe : va_A (ce_X6 G.2.1 a0 S0) s.heap.size = A at hD hE ⊢
  have hA : ∀ q : Nat, s.heap.size ≤ q → A q := fun q h => by rw [← hAe]; exact Or.inr h
  have hS : va_S A s.heap s.heap [] := va_S.rf
  have hl := lv_entry ([.ref a0.1, .int p1, .int p2, .int p3]) (n := 5) (Nat.le_of_ble_eq_true rfl)
  have hent : entryFrame m args 5 = F0 m 0 ((lg_sl ([.ref a0.1, .int p1, .int p2, .int p3]) ++ List.replicate (5 - (lg_sl ([.ref a0.1, .int p1, .int p2, .int p3])).length) Slot.unset).toArray) [] := by rw [hargs, lg_entry_eq]
  rw [hent]
  clear hent
  generalize (lg_sl ([.ref a0.1, .int p1, .int p2, .int p3]) ++ List.replicate (5 - (lg_sl ([.ref a0.1, .int p1, .int p2, .int p3])).length) Slot.unset).toArray = ls at hl ⊢
  have hl : lv_has ls 5 [(0, .ref a0.1), (1, .int p1), (2, .int p2), (3, .int p3)] := hl
  have lk0 := hts (Cond.fieldLink RX6 13 "EnginesOnListModel" "s" "[I") (List.mem_of_getElem? (i := 1) rfl)
  have hinX6 : ∀ w ∈ wsX60, w ∈ wsX6_areTogether := by decide +kernel
  have fin : ∀ (pc : Nat) (v : Int32) (H : Heap) (locs : List Loc) (ls : Array Slot), some v = some out → narrow .boolean (.int v) = .int v → va_P G.1 vwCl (ce_X6 G.2.1 a0 S0) H → va_D A (ce_X6 G.2.1 a0 S0) → va_S A s.heap H locs → decode cX6_areTogether pc = .ok (.ireturn, 1) → W p l e (headSpec wsX6_areTogether rm_X6_areTogether).room s m args below meth c H locs 0 0 (MQ below (QRo G (ce_X6 G.2.1 a0 S0) out A) args s 0 0 A) (F0 m pc ls [.int v]) := fun pc v H locs ls ho hn hP hD hS hd => W.zret (v := v) hx hb hr hn (fun t ht hW => ⟨⟨v, (), rfl, Option.some.inj ho, by first | (rw [ht]; exact hP) | (dsimp only; rw [ht]; exact hP)⟩, hS.F ht⟩) hS.2.2 hd
  generalize MQ below (QRo G (ce_X6 G.2.1 a0 S0) out A) args s 0 0 A = Q at fin ⊢
  have blk3 : ∀ (fu3 : Nat), ∀ (v1 : Int32) (v2 : Int32) (v3 : Int32) (v4 : Int32), f_X6_areTogether_b3 S0 fu3 v1 v2 v3 v4 = some out → ∀ (H : Heap) (locs : List Loc), va_P G.1 vwCl (ce_X6 G.2.1 a0 S0) H → va_D A (ce_X6 G.2.1 a0 S0) → va_S A s.heap H locs → ∀ (ls : Array Slot), lv_has ls 5 [(0, .ref a0.1), (1, .int v1), (2, .int v2), (3, .int v3), (4, .int v4)] → W p l e (headSpec wsX6_areTogether rm_X6_areTogether).room s m args below meth c H locs 0 0 Q (F0 m 3 ls []) := by
    intro fu3
    induction fu3 with
    | zero => intro v1 v2 v3 v4 hf; exact ob_none hf
    | succ fu3 ih3 =>
      intro v1 v2 v3 v4 hf H locs hP hD hS ls hl
      rw [f_X6_areTogether_b3] at hf
      refine lv_iload hx hb dX6_areTogether_3 (lv_at hl 4 rfl) ?_
      refine lv_iload_n hx hb dX6_areTogether_5 rfl (lv_at hl 3 rfl) ?_
      refine lv_icmp_ge (tgt := 48) hx hb dX6_areTogether_6 (by decide) (fun c1 => ?_) (fun c1 => ?_)
      · replace hf := ob_pos c1 hf
        refine lv_iconst (v := 1) hx hb dX6_areTogether_48 (by decide) ?_
        exact fin _ _ _ _ _ hf rfl hP hD hS dX6_areTogether_49
      · replace hf := ob_neg c1 hf
        refine lv_aload_n hx hb dX6_areTogether_9 rfl (lv_at hl 0 rfl) ?_
        refine lv_iload_n hx hb dX6_areTogether_10 rfl (lv_at hl 1 rfl) ?_
        refine lv_aload_n hx hb dX6_areTogether_11 rfl (lv_at hl 0 rfl) ?_
        refine va_get (D := G.1) (ci := 6) (v := .ref a0.2.2.1) (C := RX6) (T := TX6) (N := 14) hx hb hts hinX6 hown hK hP 0 rfl rfl 1 (by decide) lk0 (fun _ h9 => h9) rfl dX6_areTogether_12 ?_
        refine lv_iconst (v := 1) hx hb dX6_areTogether_15 (by decide) ?_
        refine va_iald hx hb hK hP 2 0 rfl rfl (by decide : inB 1 130) dX6_areTogether_16 ?_
        refine zl_top (y := S0.2.1 1) rfl ?_
        refine lv_iload hx hb dX6_areTogether_17 (lv_at hl 4 rfl) ?_
        refine lv_iadd hx hb dX6_areTogether_19 ?_
        obtain ⟨r2, hr2, hf⟩ := ob_bind hf
        have hFc := va_free (wc := ce_X6 G.2.1 a0 S0) hD hS hA [0, 1, 2, 3, 4, 5, 6, 7, 8, 9] rfl
        refine zc_ro (va_runV (As := [.int v1, .int ((S0.2.1 1) + v4)]) (rest := []) ⟨hx, hb, hml, hown, hts⟩ (c_X6_isAt l G a0 H.size S0 v1 ((S0.2.1 1) + v4) _ hr2) (cwV 2 hts gX6_areTogether_X6_isAt rfl rfl rfl (by decide +kernel) ⟨Nat.le_of_ble_eq_true rfl, Nat.le_of_ble_eq_true rfl⟩) ⟨PcM.blind, va_recv hK hP (ci := 6) (q0 := 0) rfl rfl, PcM.ok hP hD hK hE hS hFc⟩ rfl rfl hl.1 rfl (lv_room (Nat.le_of_ble_eq_true rfl)) dX6_areTogether_20 ⟨Nat.le_refl _, Nat.le_refl _⟩) hP hD hS hA [0, 1, 2, 3, 4, 5, 6, 7, 8, 9] rfl (fun H locs hP hS => ?_)
        refine lv_aload_n hx hb dX6_areTogether_23 rfl (lv_at hl 0 rfl) ?_
        refine lv_iload_n hx hb dX6_areTogether_24 rfl (lv_at hl 2 rfl) ?_
        refine lv_aload_n hx hb dX6_areTogether_25 rfl (lv_at hl 0 rfl) ?_
        refine va_get (D := G.1) (ci := 6) (v := .ref a0.2.2.1) (C := RX6) (T := TX6) (N := 14) hx hb hts hinX6 hown hK hP 0 rfl rfl 1 (by decide) lk0 (fun _ h9 => h9) rfl dX6_areTogether_26 ?_
        refine lv_iconst (v := 1) hx hb dX6_areTogether_29 (by decide) ?_
        refine va_iald hx hb hK hP 2 0 rfl rfl (by decide : inB 1 130) dX6_areTogether_30 ?_
        refine zl_top (y := S0.2.1 1) rfl ?_
        refine lv_iload hx hb dX6_areTogether_31 (lv_at hl 4 rfl) ?_
        refine lv_iadd hx hb dX6_areTogether_33 ?_
        obtain ⟨r3, hr3, hf⟩ := ob_bind hf
        have hFc := va_free (wc := ce_X6 G.2.1 a0 S0) hD hS hA [0, 1, 2, 3, 4, 5, 6, 7, 8, 9] rfl
        refine zc_ro (va_runV (As := [.int v2, .int ((S0.2.1 1) + v4)]) (rest := [.int r2]) ⟨hx, hb, hml, hown, hts⟩ (c_X6_isAt l G a0 H.size S0 v2 ((S0.2.1 1) + v4) _ hr3) (cwV 2 hts gX6_areTogether_X6_isAt rfl rfl rfl (by decide +kernel) ⟨Nat.le_of_ble_eq_true rfl, Nat.le_of_ble_eq_true rfl⟩) ⟨PcM.blind, va_recv hK hP (ci := 6) (q0 := 0) rfl rfl, PcM.ok hP hD hK hE hS hFc⟩ rfl rfl hl.1 rfl (lv_room (Nat.le_of_ble_eq_true rfl)) dX6_areTogether_34 ⟨Nat.le_refl _, Nat.le_refl _⟩) hP hD hS hA [0, 1, 2, 3, 4, 5, 6, 7, 8, 9] rfl (fun H locs hP hS => ?_)
        refine lv_icmp_eq (tgt := 42) hx hb dX6_areTogether_37 (by decide) (fun c4 => ?_) (fun c4 => ?_)
        · replace hf := ob_pos c4 hf
          refine lv_iinc (v := v4 + 1) (lv' := [(4, .int (v4 + 1)), (0, .ref a0.1), (1, .int v1), (2, .int v2), (3, .int v3)]) hx hb dX6_areTogether_42 hl (k := 4) rfl rfl (by decide) rfl (fun ls hl => ?_)
          refine lv_goto (tgt := 3) hx hb dX6_areTogether_45 (by decide) ?_
          exact ih3 _ _ _ _ hf _ _ hP hD hS _ (lv_sub hl [1, 2, 3, 4, 0] rfl)
        · replace hf := ob_neg c4 hf
          refine lv_iconst (v := 0) hx hb dX6_areTogether_40 (by decide) ?_
          exact fin _ _ _ _ _ hf rfl hP hD hS dX6_areTogether_41
  have go : ∀ (H : Heap) (locs : List Loc), va_P G.1 vwCl (ce_X6 G.2.1 a0 S0) H → va_D A (ce_X6 G.2.1 a0 S0) → va_S A s.heap H locs → ∀ (ls : Array Slot), lv_has ls 5 [(0, .ref a0.1), (1, .int p1), (2, .int p2), (3, .int p3)] → W p l e (headSpec wsX6_areTogether rm_X6_areTogether).room s m args below meth c H locs 0 0 Q (F0 m 0 ls []) := by
    intro H locs hP hD hS ls hl
    refine lv_iconst (v := 0) hx hb dX6_areTogether_0 (by decide) ?_
    refine lv_istore (lv' := [(4, .int 0), (0, .ref a0.1), (1, .int p1), (2, .int p2), (3, .int p3)]) hx hb dX6_areTogether_1 hl (by decide) rfl (fun ls hl => ?_)
    exact blk3 4096 _ _ _ _ hf _ _ hP hD hS _ (lv_sub hl [1, 2, 3, 4, 0] rfl)
  exact go _ _ hP hD hS _ hl
abbrev rm_X6_pairs : Room := { frames := 5, cells := 0, slots := 0, locals := 116 }
set_option maxHeartbeats 4000000 in
set_option maxRecDepth 100000 in
theorem c_X6_pairs (l : Launch) (G : zG) (a0 : AT_X6) (sz : Nat) (S0 : ST_X6) (p1 : Int32) (p2 : Int32) (out : Int32 × ST_X6) (hf : f_X6_pairs S0 p1 p2 = some out) : Met l yX6_pairs wsX6_pairs rm_X6_pairs (PcM G (ce_X6 G.2.1 a0 S0) [.ref a0.1, .int p1, .int p2] sz) (QWr G (fun u => ce_X6 G.2.1 a0 u) out (va_A (ce_X6 G.2.1 a0 S0) sz)) 0 0 (va_A (ce_X6 G.2.1 a0 S0) sz) := by
  rw [f_X6_pairs] at hf
  refine Met.ofW (cc := cX6_pairs) (maxL := 8) (ret := (some .int)) (by decide) rfl ?_
  intro p e s m args below meth c s₁ B hml hv
  obtain ⟨hargs, hsz, hP, hK, hD0, hE⟩ := hv
  have hx := B.exec
  have hb := B.bytes
  have hr := B.returns
  have hts := atoms_spec (ws := wsX6_pairs) B.pre
  have hown : s.vm.findClass RX6 = some m.cls := findClass_of_methodNamed B.named
  have hlocks := B.notSynchronized
  subst hsz
  have hD := hD0.self (sz := s.heap.size)
  generalize hAe : va_A (ce_X6 G.2.1 a0 S0) s.heap.size = A at hD hE ⊢
  have hA : ∀ q : Nat, s.heap.size ≤ q → A q := fun q h => by rw [← hAe]; exact Or.inr h
  have hS : va_S A s.heap s.heap [] := va_S.rf
  have hl := lv_entry ([.ref a0.1, .int p1, .int p2]) (n := 8) (Nat.le_of_ble_eq_true rfl)
  have hent : entryFrame m args 8 = F0 m 0 ((lg_sl ([.ref a0.1, .int p1, .int p2]) ++ List.replicate (8 - (lg_sl ([.ref a0.1, .int p1, .int p2])).length) Slot.unset).toArray) [] := by rw [hargs, lg_entry_eq]
  rw [hent]
  clear hent
  generalize (lg_sl ([.ref a0.1, .int p1, .int p2]) ++ List.replicate (8 - (lg_sl ([.ref a0.1, .int p1, .int p2])).length) Slot.unset).toArray = ls at hl ⊢
  have hl : lv_has ls 8 [(0, .ref a0.1), (1, .int p1), (2, .int p2)] := hl
  have lk0 := hts (Cond.fieldLink RX6 13 "EnginesOnListModel" "s" "[I") (List.mem_of_getElem? (i := 1) rfl)
  have hinX6 : ∀ w ∈ wsX60, w ∈ wsX6_pairs := by decide +kernel
  have fin : ∀ (pc : Nat) (v : Int32) (u : ST_X6) (H : Heap) (locs : List Loc) (ls : Array Slot), some (v, u) = some out → va_P G.1 vwCl (ce_X6 G.2.1 a0 u) H → va_D A (ce_X6 G.2.1 a0 u) → va_S A s.heap H locs → decode cX6_pairs pc = .ok (.ireturn, 1) → W p l e (headSpec wsX6_pairs rm_X6_pairs).room s m args below meth c H locs 0 0 (MQ below (QWr G (fun u => ce_X6 G.2.1 a0 u) out A) args s 0 0 A) (F0 m pc ls [.int v]) := fun pc v u H locs ls ho hP hD hS hd => W.iret (v := v) hx hb hr (fun t ht hW => ⟨⟨v, u, rfl, ob_pair ho, by first | (rw [ht]; exact hP) | (dsimp only; rw [ht]; exact hP), hD⟩, hS.F ht⟩) hS.2.2 hd
  generalize MQ below (QWr G (fun u => ce_X6 G.2.1 a0 u) out A) args s 0 0 A = Q at fin ⊢
  have blk43 : ∀ (fu43 : Nat), ∀ (S0 : ST_X6) (v1 : Int32) (v2 : Int32) (v4 : Int32) (v5 : Int32) (v6 : Int32), f_X6_pairs_b43 fu43 S0 v1 v2 v4 v5 v6 = some out → ∀ (H : Heap) (locs : List Loc), va_P G.1 vwCl (ce_X6 G.2.1 a0 S0) H → va_D A (ce_X6 G.2.1 a0 S0) → va_S A s.heap H locs → ∀ (ls : Array Slot), lv_has ls 8 [(0, .ref a0.1), (1, .int v1), (2, .int v2), (4, .int v4), (5, .int v5), (6, .int v6)] → W p l e (headSpec wsX6_pairs rm_X6_pairs).room s m args below meth c H locs 0 0 Q (F0 m 43 ls []) := by
    intro fu43
    induction fu43 with
    | zero => intro S0 v1 v2 v4 v5 v6 hf; exact ob_none hf
    | succ fu43 ih43 =>
      intro S0 v1 v2 v4 v5 v6 hf H locs hP hD hS ls hl
      rw [f_X6_pairs_b43] at hf
      have blk60 : ∀ (fu60 : Nat), ∀ (S0 : ST_X6) (v1 : Int32) (v2 : Int32) (v4 : Int32) (v5 : Int32) (v6 : Int32) (v7 : Int32), f_X6_pairs_b60 (f_X6_pairs_b43 fu43) fu60 S0 v1 v2 v4 v5 v6 v7 = some out → ∀ (H : Heap) (locs : List Loc), va_P G.1 vwCl (ce_X6 G.2.1 a0 S0) H → va_D A (ce_X6 G.2.1 a0 S0) → va_S A s.heap H locs → ∀ (ls : Array Slot), lv_has ls 8 [(0, .ref a0.1), (1, .int v1), (2, .int v2), (4, .int v4), (5, .int v5), (6, .int v6), (7, .int v7)] → W p l e (headSpec wsX6_pairs rm_X6_pairs).room s m args below meth c H locs 0 0 Q (F0 m 60 ls []) := by
        intro fu60
        induction fu60 with
        | zero => intro S0 v1 v2 v4 v5 v6 v7 hf; exact ob_none hf
        | succ fu60 ih60 =>
          intro S0 v1 v2 v4 v5 v6 v7 hf H locs hP hD hS ls hl
          rw [f_X6_pairs_b60] at hf
          have blk109 : ∀ (S0 : ST_X6) (v1 : Int32) (v2 : Int32) (v4 : Int32) (v5 : Int32) (v6 : Int32) (v7 : Int32), f_X6_pairs_b109 (f_X6_pairs_b43 fu43) (f_X6_pairs_b60 (f_X6_pairs_b43 fu43) fu60) S0 v1 v2 v4 v5 v6 v7 = some out → ∀ (H : Heap) (locs : List Loc), va_P G.1 vwCl (ce_X6 G.2.1 a0 S0) H → va_D A (ce_X6 G.2.1 a0 S0) → va_S A s.heap H locs → ∀ (ls : Array Slot), lv_has ls 8 [(0, .ref a0.1), (1, .int v1), (2, .int v2), (4, .int v4), (5, .int v5), (6, .int v6), (7, .int v7)] → W p l e (headSpec wsX6_pairs rm_X6_pairs).room s m args below meth c H locs 0 0 Q (F0 m 109 ls []) := by
            intro S0 v1 v2 v4 v5 v6 v7 hf H locs hP hD hS ls hl
            rw [f_X6_pairs_b109] at hf
            refine lv_iinc (v := v7 + 1) (lv' := [(7, .int (v7 + 1)), (0, .ref a0.1), (1, .int v1), (2, .int v2), (4, .int v4), (5, .int v5), (6, .int v6)]) hx hb dX6_pairs_109 hl (k := 6) rfl rfl (by decide) rfl (fun ls hl => ?_)
            refine lv_goto (tgt := 60) hx hb dX6_pairs_112 (by decide) ?_
            exact ih60 _ _ _ _ _ _ _ hf _ _ hP hD hS _ (lv_sub hl [1, 2, 3, 4, 5, 6, 0] rfl)
          have blk107 : ∀ (S0 : ST_X6) (v1 : Int32) (v2 : Int32) (v4 : Int32) (v6 : Int32) (v7 : Int32) (w0 : Int32), f_X6_pairs_b107 (f_X6_pairs_b43 fu43) (f_X6_pairs_b60 (f_X6_pairs_b43 fu43) fu60) S0 v1 v2 v4 v6 v7 w0 = some out → ∀ (H : Heap) (locs : List Loc), va_P G.1 vwCl (ce_X6 G.2.1 a0 S0) H → va_D A (ce_X6 G.2.1 a0 S0) → va_S A s.heap H locs → ∀ (ls : Array Slot), lv_has ls 8 [(0, .ref a0.1), (1, .int v1), (2, .int v2), (4, .int v4), (6, .int v6), (7, .int v7)] → W p l e (headSpec wsX6_pairs rm_X6_pairs).room s m args below meth c H locs 0 0 Q (F0 m 107 ls [.int w0]) := by
            intro S0 v1 v2 v4 v6 v7 w0 hf H locs hP hD hS ls hl
            rw [f_X6_pairs_b107] at hf
            refine lv_istore (lv' := [(5, .int w0), (0, .ref a0.1), (1, .int v1), (2, .int v2), (4, .int v4), (6, .int v6), (7, .int v7)]) hx hb dX6_pairs_107 hl (by decide) rfl (fun ls hl => ?_)
            exact blk109 _ _ _ _ _ _ _ hf _ _ hP hD hS _ (lv_sub hl [1, 2, 3, 4, 0, 5, 6] rfl)
          refine lv_iload hx hb dX6_pairs_60 (lv_at hl 6 rfl) ?_
          refine lv_aload_n hx hb dX6_pairs_62 rfl (lv_at hl 0 rfl) ?_
          refine va_get (D := G.1) (ci := 6) (v := .ref a0.2.2.1) (C := RX6) (T := TX6) (N := 14) hx hb hts hinX6 hown hK hP 0 rfl rfl 1 (by decide) lk0 (fun _ h9 => h9) rfl dX6_pairs_63 ?_
          refine lv_iconst (v := 0) hx hb dX6_pairs_66 (by decide) ?_
          refine va_iald hx hb hK hP 2 0 rfl rfl (by decide : inB 0 130) dX6_pairs_67 ?_
          refine zl_top (y := S0.2.1 0) rfl ?_
          refine lv_icmp_ge (tgt := 115) hx hb dX6_pairs_68 (by decide) (fun c1 => ?_) (fun c1 => ?_)
          · replace hf := ob_pos c1 hf
            refine lv_iinc (v := v6 + 1) (lv' := [(6, .int (v6 + 1)), (0, .ref a0.1), (1, .int v1), (2, .int v2), (4, .int v4), (5, .int v5), (7, .int v7)]) hx hb dX6_pairs_115 hl (k := 5) rfl rfl (by decide) rfl (fun ls hl => ?_)
            refine lv_goto (tgt := 43) hx hb dX6_pairs_118 (by decide) ?_
            exact ih43 _ _ _ _ _ _ hf _ _ hP hD hS _ (lv_sub hl [1, 2, 3, 4, 5, 0] rfl)
          · replace hf := ob_neg c1 hf
            refine lv_aload_n hx hb dX6_pairs_71 rfl (lv_at hl 0 rfl) ?_
            refine lv_iload hx hb dX6_pairs_72 (lv_at hl 5 rfl) ?_
            refine lv_iload hx hb dX6_pairs_74 (lv_at hl 6 rfl) ?_
            refine lv_iload_n hx hb dX6_pairs_76 rfl (lv_at hl 1 rfl) ?_
            obtain ⟨r2, hr2, hf⟩ := ob_bind hf
            have hFc := va_free (wc := ce_X6 G.2.1 a0 S0) hD hS hA [0, 1, 2, 3, 4, 5, 6, 7, 8, 9] rfl
            refine zc_ro (va_runV (As := [.int v6, .int v7, .int v1]) (rest := []) ⟨hx, hb, hml, hown, hts⟩ (c_X6_areTogether l G a0 H.size S0 v6 v7 v1 _ hr2) (cwV 3 hts gX6_pairs_X6_areTogether rfl rfl rfl (by decide +kernel) ⟨Nat.le_of_ble_eq_true rfl, Nat.le_of_ble_eq_true rfl⟩) ⟨PcM.blind, va_recv hK hP (ci := 6) (q0 := 0) rfl rfl, PcM.ok hP hD hK hE hS hFc⟩ rfl rfl hl.1 rfl (lv_room (Nat.le_of_ble_eq_true rfl)) dX6_pairs_77 ⟨Nat.le_refl _, Nat.le_refl _⟩) hP hD hS hA [0, 1, 2, 3, 4, 5, 6, 7, 8, 9] rfl (fun H locs hP hS => ?_)
            refine lv_if_ne (tgt := 86) hx hb dX6_pairs_80 (by decide) (fun c3 => ?_) (fun c3 => ?_)
            · replace hf := ob_neg c3 hf
              refine lv_iinc (v := v4 + 1) (lv' := [(4, .int (v4 + 1)), (0, .ref a0.1), (1, .int v1), (2, .int v2), (5, .int v5), (6, .int v6), (7, .int v7)]) hx hb dX6_pairs_86 hl (k := 3) rfl rfl (by decide) rfl (fun ls hl => ?_)
              refine lv_iload hx hb dX6_pairs_89 (lv_at hl 4 rfl) ?_
              refine lv_if_ge (tgt := 105) hx hb dX6_pairs_91 (by decide) (fun c4 => ?_) (fun c4 => ?_)
              · replace hf := ob_pos c4 hf
                refine lv_iload hx hb dX6_pairs_105 (lv_at hl 4 rfl) ?_
                exact blk107 _ _ _ _ _ _ _ hf _ _ hP hD hS _ (lv_sub hl [1, 2, 3, 0, 5, 6] rfl)
              · replace hf := ob_neg c4 hf
                refine lv_bipush (v := 10) hx hb dX6_pairs_94 (by decide) ?_
                refine lv_iload hx hb dX6_pairs_96 (lv_at hl 5 rfl) ?_
                refine lv_imul hx hb dX6_pairs_98 ?_
                refine lv_iload hx hb dX6_pairs_99 (lv_at hl 6 rfl) ?_
                refine lv_iadd hx hb dX6_pairs_101 ?_
                refine lv_goto (tgt := 107) hx hb dX6_pairs_102 (by decide) ?_
                exact blk107 _ _ _ _ _ _ _ hf _ _ hP hD hS _ (lv_sub hl [1, 2, 3, 0, 5, 6] rfl)
            · replace hf := ob_pos c3 hf
              refine lv_goto (tgt := 109) hx hb dX6_pairs_83 (by decide) ?_
              exact blk109 _ _ _ _ _ _ _ hf _ _ hP hD hS _ (lv_sub hl [0, 1, 2, 3, 4, 5, 6] rfl)
      refine lv_iload hx hb dX6_pairs_43 (lv_at hl 5 rfl) ?_
      refine lv_aload_n hx hb dX6_pairs_45 rfl (lv_at hl 0 rfl) ?_
      refine va_get (D := G.1) (ci := 6) (v := .ref a0.2.2.1) (C := RX6) (T := TX6) (N := 14) hx hb hts hinX6 hown hK hP 0 rfl rfl 1 (by decide) lk0 (fun _ h9 => h9) rfl dX6_pairs_46 ?_
      refine lv_iconst (v := 0) hx hb dX6_pairs_49 (by decide) ?_
      refine va_iald hx hb hK hP 2 0 rfl rfl (by decide : inB 0 130) dX6_pairs_50 ?_
      refine zl_top (y := S0.2.1 0) rfl ?_
      refine lv_icmp_ge (tgt := 121) hx hb dX6_pairs_51 (by decide) (fun c5 => ?_) (fun c5 => ?_)
      · replace hf := ob_pos c5 hf
        refine lv_iload_n hx hb dX6_pairs_121 rfl (lv_at hl 2 rfl) ?_
        refine lv_if_ne (tgt := 130) hx hb dX6_pairs_122 (by decide) (fun c6 => ?_) (fun c6 => ?_)
        · replace hf := ob_neg c6 hf
          refine lv_iload hx hb dX6_pairs_130 (lv_at hl 4 rfl) ?_
          exact fin _ _ _ _ _ _ hf hP hD hS dX6_pairs_132
        · replace hf := ob_pos c6 hf
          refine lv_iload hx hb dX6_pairs_125 (lv_at hl 3 rfl) ?_
          refine lv_goto (tgt := 132) hx hb dX6_pairs_127 (by decide) ?_
          exact fin _ _ _ _ _ _ hf hP hD hS dX6_pairs_132
      · replace hf := ob_neg c5 hf
        refine lv_iload hx hb dX6_pairs_54 (lv_at hl 5 rfl) ?_
        refine lv_iconst (v := 1) hx hb dX6_pairs_56 (by decide) ?_
        refine lv_iadd hx hb dX6_pairs_57 ?_
        refine lv_istore (lv' := [(7, .int (v6 + 1)), (0, .ref a0.1), (1, .int v1), (2, .int v2), (4, .int v4), (5, .int v5), (6, .int v6)]) hx hb dX6_pairs_58 hl (by decide) rfl (fun ls hl => ?_)
        exact blk60 4096 _ _ _ _ _ _ _ hf _ _ hP hD hS _ (lv_sub hl [1, 2, 3, 4, 5, 6, 0] rfl)
  have blk23 : ∀ (S0 : ST_X6) (v1 : Int32) (v2 : Int32) (v3 : Int32), f_X6_pairs_b23 S0 v1 v2 v3 = some out → ∀ (H : Heap) (locs : List Loc), va_P G.1 vwCl (ce_X6 G.2.1 a0 S0) H → va_D A (ce_X6 G.2.1 a0 S0) → va_S A s.heap H locs → ∀ (ls : Array Slot), lv_has ls 8 [(0, .ref a0.1), (1, .int v1), (2, .int v2), (3, .int v3)] → W p l e (headSpec wsX6_pairs rm_X6_pairs).room s m args below meth c H locs 0 0 Q (F0 m 23 ls []) := by
    intro S0 v1 v2 v3 hf H locs hP hD hS ls hl
    rw [f_X6_pairs_b23] at hf
    refine lv_iload_n hx hb dX6_pairs_23 rfl (lv_at hl 3 rfl) ?_
    refine lv_if_eq (tgt := 33) hx hb dX6_pairs_24 (by decide) (fun c7 => ?_) (fun c7 => ?_)
    · replace hf := ob_pos c7 hf
      refine lv_iconst (v := 0) hx hb dX6_pairs_33 (by decide) ?_
      refine lv_istore (lv' := [(4, .int 0), (0, .ref a0.1), (1, .int v1), (2, .int v2), (3, .int v3)]) hx hb dX6_pairs_34 hl (by decide) rfl (fun ls hl => ?_)
      refine lv_bipush (v := (-9)) hx hb dX6_pairs_36 (by decide) ?_
      refine lv_istore (lv' := [(5, .int (-9)), (4, .int 0), (0, .ref a0.1), (1, .int v1), (2, .int v2), (3, .int v3)]) hx hb dX6_pairs_38 hl (by decide) rfl (fun ls hl => ?_)
      refine lv_iconst (v := 0) hx hb dX6_pairs_40 (by decide) ?_
      refine lv_istore (lv' := [(6, .int 0), (5, .int (-9)), (4, .int 0), (0, .ref a0.1), (1, .int v1), (2, .int v2), (3, .int v3)]) hx hb dX6_pairs_41 hl (by decide) rfl (fun ls hl => ?_)
      exact blk43 4096 _ _ _ _ _ _ hf _ _ hP hD hS _ (lv_sub hl [3, 4, 5, 2, 1, 0] rfl)
    · replace hf := ob_neg c7 hf
      refine lv_aload_n hx hb dX6_pairs_27 rfl (lv_at hl 0 rfl) ?_
      refine lv_iload_n hx hb dX6_pairs_28 rfl (lv_at hl 3 rfl) ?_
      obtain ⟨r8, hr8, hf⟩ := ob_bind hf
      have hFc := va_free (wc := ce_X6 G.2.1 a0 S0) hD hS hA [0, 1, 2, 3, 4, 5, 6, 7, 8, 9] rfl
      refine zc_wr (cf := (fun u => ce_X6 G.2.1 a0 u)) (ws' := ce_X6 G.2.1 a0 r8.2) (va_runV (As := [.int v3]) (rest := []) ⟨hx, hb, hml, hown, hts⟩ (c_X6_refuse l G a0 H.size S0 v3 _ hr8) (cwV 1 hts gX6_pairs_X6_refuse rfl rfl rfl (by decide +kernel) ⟨Nat.le_of_ble_eq_true rfl, Nat.le_of_ble_eq_true rfl⟩) ⟨PcM.blind, va_recv hK hP (ci := 6) (q0 := 0) rfl rfl, PcM.ok hP hD hK hE hS hFc⟩ rfl rfl hl.1 rfl (lv_room (Nat.le_of_ble_eq_true rfl)) dX6_pairs_29 ⟨Nat.le_refl _, Nat.le_refl _⟩) hP hD hS hA [0, 1, 2, 3, 4, 5, 6, 7, 8, 9] [] [0, 1, 2, 3, 4, 5, 6, 7, 8, 9] rfl rfl (by decide) (by decide) (by decide) rfl (fun H locs hP hD hS => ?_)
      exact fin _ _ _ _ _ _ hf hP hD hS dX6_pairs_32
  have go : ∀ (H : Heap) (locs : List Loc), va_P G.1 vwCl (ce_X6 G.2.1 a0 S0) H → va_D A (ce_X6 G.2.1 a0 S0) → va_S A s.heap H locs → ∀ (ls : Array Slot), lv_has ls 8 [(0, .ref a0.1), (1, .int p1), (2, .int p2)] → W p l e (headSpec wsX6_pairs rm_X6_pairs).room s m args below meth c H locs 0 0 Q (F0 m 0 ls []) := by
    intro H locs hP hD hS ls hl
    refine lv_iload_n hx hb dX6_pairs_0 rfl (lv_at hl 1 rfl) ?_
    refine lv_iconst (v := 1) hx hb dX6_pairs_1 (by decide) ?_
    refine lv_bipush (v := 60) hx hb dX6_pairs_2 (by decide) ?_
    obtain ⟨r9, hr9, hf⟩ := ob_bind hf
    have hPc : va_P G.1 vwCl (([] : va_W)) H := hP.sub [] rfl
    have hDc : va_D A (([] : va_W)) := hD.sub [] (by decide) rfl
    have hFc := va_free (wc := ([] : va_W)) hD hS hA [] rfl
    refine zc_ro (va_runS (As := [.int p1, .int 1, .int 60]) (rest := []) ⟨hx, hb, hml, hown, hts⟩ (c_X6_within l G H.size p1 1 60 _ hr9) (va_cwS 3 hts gX6_pairs_X6_within rfl rfl rfl (by decide +kernel) ⟨Nat.le_of_ble_eq_true rfl, Nat.le_of_ble_eq_true rfl⟩) ⟨PcM.blind, PcM.ok hPc hDc hK hE hS hFc⟩ rfl rfl hl.1 rfl (lv_room (Nat.le_of_ble_eq_true rfl)) dX6_pairs_4 ⟨Nat.le_refl _, Nat.le_refl _⟩) hP hD hS hA [] rfl (fun H locs hP hS => ?_)
    refine lv_istore_n (lv' := [(3, .int r9), (0, .ref a0.1), (1, .int p1), (2, .int p2)]) hx hb dX6_pairs_7 rfl hl (by decide) rfl (fun ls hl => ?_)
    refine lv_iload_n hx hb dX6_pairs_8 rfl (lv_at hl 0 rfl) ?_
    refine lv_if_ne (tgt := 23) hx hb dX6_pairs_9 (by decide) (fun c10 => ?_) (fun c10 => ?_)
    · replace hf := ob_neg c10 hf
      exact blk23 _ _ _ _ hf _ _ hP hD hS _ (lv_sub hl [1, 2, 3, 0] rfl)
    · replace hf := ob_pos c10 hf
      refine lv_iload_n hx hb dX6_pairs_12 rfl (lv_at hl 3 rfl) ?_
      refine lv_iconst (v := 2) hx hb dX6_pairs_13 (by decide) ?_
      obtain ⟨r11, hr11, hf⟩ := ob_bind hf
      have hPc : va_P G.1 vwCl (([] : va_W)) H := hP.sub [] rfl
      have hDc : va_D A (([] : va_W)) := hD.sub [] (by decide) rfl
      have hFc := va_free (wc := ([] : va_W)) hD hS hA [] rfl
      refine zc_ro (va_runS (As := [.int p2, .int 2]) (rest := []) ⟨hx, hb, hml, hown, hts⟩ (c_X6_isIn l G H.size p2 2 _ hr11) (va_cwS 2 hts gX6_pairs_X6_isIn rfl rfl rfl (by decide +kernel) ⟨Nat.le_of_ble_eq_true rfl, Nat.le_of_ble_eq_true rfl⟩) ⟨PcM.blind, PcM.ok hPc hDc hK hE hS hFc⟩ rfl rfl hl.1 rfl (lv_room (Nat.le_of_ble_eq_true rfl)) dX6_pairs_14 ⟨Nat.le_refl _, Nat.le_refl _⟩) hP hD hS hA [] rfl (fun H locs hP hS => ?_)
      refine lv_if_ne (tgt := 23) hx hb dX6_pairs_17 (by decide) (fun c12 => ?_) (fun c12 => ?_)
      · replace hf := ob_neg c12 hf
        exact blk23 _ _ _ _ hf _ _ hP hD hS _ (lv_sub hl [1, 2, 3, 0] rfl)
      · replace hf := ob_pos c12 hf
        refine lv_bipush (v := (-2)) hx hb dX6_pairs_20 (by decide) ?_
        refine lv_istore_n (lv' := [(3, .int (-2)), (0, .ref a0.1), (1, .int p1), (2, .int p2)]) hx hb dX6_pairs_22 rfl hl (by decide) rfl (fun ls hl => ?_)
        exact blk23 _ _ _ _ hf _ _ hP hD hS _ (lv_sub hl [1, 2, 3, 0] rfl)
  exact go _ _ hP hD hS _ hl
abbrev rm_X6_many : Room := { frames := 2, cells := 0, slots := 0, locals := 46 }
set_option maxHeartbeats 4000000 in
set_option maxRecDepth 100000 in
theorem c_X6_many (l : Launch) (G : zG) (a0 : AT_X6) (sz : Nat) (S0 : ST_X6) (out : Int32) (hf : f_X6_many S0 = some out) : Met l yX6_many wsX6_many rm_X6_many (PcM G (ce_X6 G.2.1 a0 S0) [.ref a0.1] sz) (QRo G (ce_X6 G.2.1 a0 S0) out (va_A (ce_X6 G.2.1 a0 S0) sz)) 0 0 (va_A (ce_X6 G.2.1 a0 S0) sz) := by
  rw [f_X6_many] at hf
  refine Met.ofW (cc := cX6_many) (maxL := 6) (ret := (some .int)) (by decide) rfl ?_
  intro p e s m args below meth c s₁ B hml hv
  obtain ⟨hargs, hsz, hP, hK, hD0, hE⟩ := hv
  have hx := B.exec
  have hb := B.bytes
  have hr := B.returns
  have hts := atoms_spec (ws := wsX6_many) B.pre
  have hown : s.vm.findClass RX6 = some m.cls := findClass_of_methodNamed B.named
  have hlocks := B.notSynchronized
  subst hsz
  have hD := hD0.self (sz := s.heap.size)
  generalize hAe : va_A (ce_X6 G.2.1 a0 S0) s.heap.size = A at hD hE ⊢
  have hA : ∀ q : Nat, s.heap.size ≤ q → A q := fun q h => by rw [← hAe]; exact Or.inr h
  have hS : va_S A s.heap s.heap [] := va_S.rf
  have hl := lv_entry ([.ref a0.1]) (n := 6) (Nat.le_of_ble_eq_true rfl)
  have hent : entryFrame m args 6 = F0 m 0 ((lg_sl ([.ref a0.1]) ++ List.replicate (6 - (lg_sl ([.ref a0.1])).length) Slot.unset).toArray) [] := by rw [hargs, lg_entry_eq]
  rw [hent]
  clear hent
  generalize (lg_sl ([.ref a0.1]) ++ List.replicate (6 - (lg_sl ([.ref a0.1])).length) Slot.unset).toArray = ls at hl ⊢
  have hl : lv_has ls 6 [(0, .ref a0.1)] := hl
  have lk0 := hts (Cond.fieldLink RX6 13 "EnginesOnListModel" "s" "[I") (List.mem_of_getElem? (i := 1) rfl)
  have hinX6 : ∀ w ∈ wsX60, w ∈ wsX6_many := by decide +kernel
  have fin : ∀ (pc : Nat) (v : Int32) (H : Heap) (locs : List Loc) (ls : Array Slot), some v = some out → va_P G.1 vwCl (ce_X6 G.2.1 a0 S0) H → va_D A (ce_X6 G.2.1 a0 S0) → va_S A s.heap H locs → decode cX6_many pc = .ok (.ireturn, 1) → W p l e (headSpec wsX6_many rm_X6_many).room s m args below meth c H locs 0 0 (MQ below (QRo G (ce_X6 G.2.1 a0 S0) out A) args s 0 0 A) (F0 m pc ls [.int v]) := fun pc v H locs ls ho hP hD hS hd => W.iret (v := v) hx hb hr (fun t ht hW => ⟨⟨v, (), rfl, Option.some.inj ho, by first | (rw [ht]; exact hP) | (dsimp only; rw [ht]; exact hP)⟩, hS.F ht⟩) hS.2.2 hd
  generalize MQ below (QRo G (ce_X6 G.2.1 a0 S0) out A) args s 0 0 A = Q at fin ⊢
  have blk6 : ∀ (fu6 : Nat), ∀ (v1 : Int32) (v2 : Int32) (v3 : Int32), f_X6_many_b6 S0 fu6 v1 v2 v3 = some out → ∀ (H : Heap) (locs : List Loc), va_P G.1 vwCl (ce_X6 G.2.1 a0 S0) H → va_D A (ce_X6 G.2.1 a0 S0) → va_S A s.heap H locs → ∀ (ls : Array Slot), lv_has ls 6 [(0, .ref a0.1), (1, .int v1), (2, .int v2), (3, .int v3)] → W p l e (headSpec wsX6_many rm_X6_many).room s m args below meth c H locs 0 0 Q (F0 m 6 ls []) := by
    intro fu6
    induction fu6 with
    | zero => intro v1 v2 v3 hf; exact ob_none hf
    | succ fu6 ih6 =>
      intro v1 v2 v3 hf H locs hP hD hS ls hl
      rw [f_X6_many_b6] at hf
      have blk95 : ∀ (v2 : Int32) (v3 : Int32) (w0 : Int32), f_X6_many_b95 S0 (f_X6_many_b6 S0 fu6) v2 v3 w0 = some out → ∀ (H : Heap) (locs : List Loc), va_P G.1 vwCl (ce_X6 G.2.1 a0 S0) H → va_D A (ce_X6 G.2.1 a0 S0) → va_S A s.heap H locs → ∀ (ls : Array Slot), lv_has ls 6 [(0, .ref a0.1), (2, .int v2), (3, .int v3)] → W p l e (headSpec wsX6_many rm_X6_many).room s m args below meth c H locs 0 0 Q (F0 m 95 ls [.int w0]) := by
        intro v2 v3 w0 hf H locs hP hD hS ls hl
        rw [f_X6_many_b95] at hf
        refine lv_istore_n (lv' := [(1, .int w0), (0, .ref a0.1), (2, .int v2), (3, .int v3)]) hx hb dX6_many_95 rfl hl (by decide) rfl (fun ls hl => ?_)
        refine lv_iinc (v := v3 + 1) (lv' := [(3, .int (v3 + 1)), (1, .int w0), (0, .ref a0.1), (2, .int v2)]) hx hb dX6_many_96 hl (k := 3) rfl rfl (by decide) rfl (fun ls hl => ?_)
        refine lv_goto (tgt := 6) hx hb dX6_many_99 (by decide) ?_
        exact ih6 _ _ _ hf _ _ hP hD hS _ (lv_sub hl [2, 1, 3, 0] rfl)
      have blk73 : ∀ (v1 : Int32) (v3 : Int32) (w0 : Int32) (w1 : Int32), f_X6_many_b73 S0 (f_X6_many_b6 S0 fu6) v1 v3 w0 w1 = some out → ∀ (H : Heap) (locs : List Loc), va_P G.1 vwCl (ce_X6 G.2.1 a0 S0) H → va_D A (ce_X6 G.2.1 a0 S0) → va_S A s.heap H locs → ∀ (ls : Array Slot), lv_has ls 6 [(0, .ref a0.1), (1, .int v1), (3, .int v3)] → W p l e (headSpec wsX6_many rm_X6_many).room s m args below meth c H locs 0 0 Q (F0 m 73 ls [.int w1, .int w0]) := by
        intro v1 v3 w0 w1 hf H locs hP hD hS ls hl
        rw [f_X6_many_b73] at hf
        refine lv_iadd hx hb dX6_many_73 ?_
        refine lv_istore_n (lv' := [(2, .int (w0 + w1)), (0, .ref a0.1), (1, .int v1), (3, .int v3)]) hx hb dX6_many_74 rfl hl (by decide) rfl (fun ls hl => ?_)
        refine lv_aload_n hx hb dX6_many_75 rfl (lv_at hl 1 rfl) ?_
        refine lv_iload_n hx hb dX6_many_76 rfl (lv_at hl 3 rfl) ?_
        refine lv_iconst (v := 2) hx hb dX6_many_77 (by decide) ?_
        obtain ⟨r1, hr1, hf⟩ := ob_bind hf
        have hFc := va_free (wc := ce_X6 G.2.1 a0 S0) hD hS hA [0, 1, 2, 3, 4, 5, 6, 7, 8, 9] rfl
        refine zc_ro (va_runV (As := [.int v3, .int 2]) (rest := []) ⟨hx, hb, hml, hown, hts⟩ (c_X6_in l G a0 H.size S0 v3 2 _ hr1) (cwV 2 hts gX6_many_X6_in rfl rfl rfl (by decide +kernel) ⟨Nat.le_of_ble_eq_true rfl, Nat.le_of_ble_eq_true rfl⟩) ⟨PcM.blind, va_recv hK hP (ci := 6) (q0 := 0) rfl rfl, PcM.ok hP hD hK hE hS hFc⟩ rfl rfl hl.1 rfl (lv_room (Nat.le_of_ble_eq_true rfl)) dX6_many_78 ⟨Nat.le_refl _, Nat.le_refl _⟩) hP hD hS hA [0, 1, 2, 3, 4, 5, 6, 7, 8, 9] rfl (fun H locs hP hS => ?_)
        refine lv_iload_n hx hb dX6_many_81 rfl (lv_at hl 2 rfl) ?_
        refine lv_icmp_le (tgt := 94) hx hb dX6_many_82 (by decide) (fun c2 => ?_) (fun c2 => ?_)
        · replace hf := ob_pos c2 hf
          refine lv_iload_n hx hb dX6_many_94 rfl (lv_at hl 2 rfl) ?_
          exact blk95 _ _ _ hf _ _ hP hD hS _ (lv_sub hl [1, 0, 3] rfl)
        · replace hf := ob_neg c2 hf
          refine lv_aload_n hx hb dX6_many_85 rfl (lv_at hl 1 rfl) ?_
          refine lv_iload_n hx hb dX6_many_86 rfl (lv_at hl 3 rfl) ?_
          refine lv_iconst (v := 2) hx hb dX6_many_87 (by decide) ?_
          obtain ⟨r3, hr3, hf⟩ := ob_bind hf
          have hFc := va_free (wc := ce_X6 G.2.1 a0 S0) hD hS hA [0, 1, 2, 3, 4, 5, 6, 7, 8, 9] rfl
          refine zc_ro (va_runV (As := [.int v3, .int 2]) (rest := []) ⟨hx, hb, hml, hown, hts⟩ (c_X6_in l G a0 H.size S0 v3 2 _ hr3) (cwV 2 hts gX6_many_X6_in rfl rfl rfl (by decide +kernel) ⟨Nat.le_of_ble_eq_true rfl, Nat.le_of_ble_eq_true rfl⟩) ⟨PcM.blind, va_recv hK hP (ci := 6) (q0 := 0) rfl rfl, PcM.ok hP hD hK hE hS hFc⟩ rfl rfl hl.1 rfl (lv_room (Nat.le_of_ble_eq_true rfl)) dX6_many_88 ⟨Nat.le_refl _, Nat.le_refl _⟩) hP hD hS hA [0, 1, 2, 3, 4, 5, 6, 7, 8, 9] rfl (fun H locs hP hS => ?_)
          refine lv_goto (tgt := 95) hx hb dX6_many_91 (by decide) ?_
          exact blk95 _ _ _ hf _ _ hP hD hS _ (lv_sub hl [1, 0, 3] rfl)
      have blk22 : ∀ (fu22 : Nat), ∀ (v1 : Int32) (v2 : Int32) (v3 : Int32) (v4 : Int32) (v5 : Int32), f_X6_many_b22 S0 (f_X6_many_b6 S0 fu6) fu22 v1 v2 v3 v4 v5 = some out → ∀ (H : Heap) (locs : List Loc), va_P G.1 vwCl (ce_X6 G.2.1 a0 S0) H → va_D A (ce_X6 G.2.1 a0 S0) → va_S A s.heap H locs → ∀ (ls : Array Slot), lv_has ls 6 [(0, .ref a0.1), (1, .int v1), (2, .int v2), (3, .int v3), (4, .int v4), (5, .int v5)] → W p l e (headSpec wsX6_many rm_X6_many).room s m args below meth c H locs 0 0 Q (F0 m 22 ls []) := by
        intro fu22
        induction fu22 with
        | zero => intro v1 v2 v3 v4 v5 hf; exact ob_none hf
        | succ fu22 ih22 =>
          intro v1 v2 v3 v4 v5 hf H locs hP hD hS ls hl
          rw [f_X6_many_b22] at hf
          have blk54 : ∀ (v1 : Int32) (v2 : Int32) (v3 : Int32) (v5 : Int32) (w0 : Int32), f_X6_many_b54 S0 (f_X6_many_b6 S0 fu6) (f_X6_many_b22 S0 (f_X6_many_b6 S0 fu6) fu22) v1 v2 v3 v5 w0 = some out → ∀ (H : Heap) (locs : List Loc), va_P G.1 vwCl (ce_X6 G.2.1 a0 S0) H → va_D A (ce_X6 G.2.1 a0 S0) → va_S A s.heap H locs → ∀ (ls : Array Slot), lv_has ls 6 [(0, .ref a0.1), (1, .int v1), (2, .int v2), (3, .int v3), (5, .int v5)] → W p l e (headSpec wsX6_many rm_X6_many).room s m args below meth c H locs 0 0 Q (F0 m 54 ls [.int w0]) := by
            intro v1 v2 v3 v5 w0 hf H locs hP hD hS ls hl
            rw [f_X6_many_b54] at hf
            refine lv_istore (lv' := [(4, .int w0), (0, .ref a0.1), (1, .int v1), (2, .int v2), (3, .int v3), (5, .int v5)]) hx hb dX6_many_54 hl (by decide) rfl (fun ls hl => ?_)
            refine lv_iinc (v := v5 + 1) (lv' := [(5, .int (v5 + 1)), (4, .int w0), (0, .ref a0.1), (1, .int v1), (2, .int v2), (3, .int v3)]) hx hb dX6_many_56 hl (k := 5) rfl rfl (by decide) rfl (fun ls hl => ?_)
            refine lv_goto (tgt := 22) hx hb dX6_many_59 (by decide) ?_
            exact ih22 _ _ _ _ _ hf _ _ hP hD hS _ (lv_sub hl [2, 3, 4, 5, 1, 0] rfl)
          have blk49 : ∀ (v1 : Int32) (v2 : Int32) (v3 : Int32) (v5 : Int32), f_X6_many_b49 S0 (f_X6_many_b6 S0 fu6) (f_X6_many_b22 S0 (f_X6_many_b6 S0 fu6) fu22) v1 v2 v3 v5 = some out → ∀ (H : Heap) (locs : List Loc), va_P G.1 vwCl (ce_X6 G.2.1 a0 S0) H → va_D A (ce_X6 G.2.1 a0 S0) → va_S A s.heap H locs → ∀ (ls : Array Slot), lv_has ls 6 [(0, .ref a0.1), (1, .int v1), (2, .int v2), (3, .int v3), (5, .int v5)] → W p l e (headSpec wsX6_many rm_X6_many).room s m args below meth c H locs 0 0 Q (F0 m 49 ls []) := by
            intro v1 v2 v3 v5 hf H locs hP hD hS ls hl
            rw [f_X6_many_b49] at hf
            refine lv_iconst (v := 1) hx hb dX6_many_49 (by decide) ?_
            refine lv_goto (tgt := 54) hx hb dX6_many_50 (by decide) ?_
            exact blk54 _ _ _ _ _ hf _ _ hP hD hS _ (lv_sub hl [0, 1, 2, 3, 4] rfl)
          refine lv_iload hx hb dX6_many_22 (lv_at hl 5 rfl) ?_
          refine lv_iload_n hx hb dX6_many_24 rfl (lv_at hl 3 rfl) ?_
          refine lv_icmp_ge (tgt := 62) hx hb dX6_many_25 (by decide) (fun c4 => ?_) (fun c4 => ?_)
          · replace hf := ob_pos c4 hf
            refine lv_iload_n hx hb dX6_many_62 rfl (lv_at hl 2 rfl) ?_
            refine lv_iload hx hb dX6_many_63 (lv_at hl 4 rfl) ?_
            refine lv_if_eq (tgt := 72) hx hb dX6_many_65 (by decide) (fun c5 => ?_) (fun c5 => ?_)
            · replace hf := ob_pos c5 hf
              refine lv_iconst (v := 1) hx hb dX6_many_72 (by decide) ?_
              exact blk73 _ _ _ _ hf _ _ hP hD hS _ (lv_sub hl [0, 1, 3] rfl)
            · replace hf := ob_neg c5 hf
              refine lv_iconst (v := 0) hx hb dX6_many_68 (by decide) ?_
              refine lv_goto (tgt := 73) hx hb dX6_many_69 (by decide) ?_
              exact blk73 _ _ _ _ hf _ _ hP hD hS _ (lv_sub hl [0, 1, 3] rfl)
          · replace hf := ob_neg c4 hf
            refine lv_iload hx hb dX6_many_28 (lv_at hl 4 rfl) ?_
            refine lv_if_ne (tgt := 49) hx hb dX6_many_30 (by decide) (fun c6 => ?_) (fun c6 => ?_)
            · replace hf := ob_neg c6 hf
              exact blk49 _ _ _ _ hf _ _ hP hD hS _ (lv_sub hl [0, 1, 2, 3, 5] rfl)
            · replace hf := ob_pos c6 hf
              refine lv_aload_n hx hb dX6_many_33 rfl (lv_at hl 0 rfl) ?_
              refine lv_iload hx hb dX6_many_34 (lv_at hl 5 rfl) ?_
              refine lv_iconst (v := 2) hx hb dX6_many_36 (by decide) ?_
              obtain ⟨r7, hr7, hf⟩ := ob_bind hf
              have hFc := va_free (wc := ce_X6 G.2.1 a0 S0) hD hS hA [0, 1, 2, 3, 4, 5, 6, 7, 8, 9] rfl
              refine zc_ro (va_runV (As := [.int v5, .int 2]) (rest := []) ⟨hx, hb, hml, hown, hts⟩ (c_X6_in l G a0 H.size S0 v5 2 _ hr7) (cwV 2 hts gX6_many_X6_in rfl rfl rfl (by decide +kernel) ⟨Nat.le_of_ble_eq_true rfl, Nat.le_of_ble_eq_true rfl⟩) ⟨PcM.blind, va_recv hK hP (ci := 6) (q0 := 0) rfl rfl, PcM.ok hP hD hK hE hS hFc⟩ rfl rfl hl.1 rfl (lv_room (Nat.le_of_ble_eq_true rfl)) dX6_many_37 ⟨Nat.le_refl _, Nat.le_refl _⟩) hP hD hS hA [0, 1, 2, 3, 4, 5, 6, 7, 8, 9] rfl (fun H locs hP hS => ?_)
              refine lv_aload_n hx hb dX6_many_40 rfl (lv_at hl 0 rfl) ?_
              refine lv_iload_n hx hb dX6_many_41 rfl (lv_at hl 3 rfl) ?_
              refine lv_iconst (v := 2) hx hb dX6_many_42 (by decide) ?_
              obtain ⟨r8, hr8, hf⟩ := ob_bind hf
              have hFc := va_free (wc := ce_X6 G.2.1 a0 S0) hD hS hA [0, 1, 2, 3, 4, 5, 6, 7, 8, 9] rfl
              refine zc_ro (va_runV (As := [.int v3, .int 2]) (rest := [.int r7]) ⟨hx, hb, hml, hown, hts⟩ (c_X6_in l G a0 H.size S0 v3 2 _ hr8) (cwV 2 hts gX6_many_X6_in rfl rfl rfl (by decide +kernel) ⟨Nat.le_of_ble_eq_true rfl, Nat.le_of_ble_eq_true rfl⟩) ⟨PcM.blind, va_recv hK hP (ci := 6) (q0 := 0) rfl rfl, PcM.ok hP hD hK hE hS hFc⟩ rfl rfl hl.1 rfl (lv_room (Nat.le_of_ble_eq_true rfl)) dX6_many_43 ⟨Nat.le_refl _, Nat.le_refl _⟩) hP hD hS hA [0, 1, 2, 3, 4, 5, 6, 7, 8, 9] rfl (fun H locs hP hS => ?_)
              refine lv_icmp_ne (tgt := 53) hx hb dX6_many_46 (by decide) (fun c9 => ?_) (fun c9 => ?_)
              · replace hf := ob_neg c9 hf
                refine lv_iconst (v := 0) hx hb dX6_many_53 (by decide) ?_
                exact blk54 _ _ _ _ _ hf _ _ hP hD hS _ (lv_sub hl [0, 1, 2, 3, 5] rfl)
              · replace hf := ob_pos c9 hf
                exact blk49 _ _ _ _ hf _ _ hP hD hS _ (lv_sub hl [0, 1, 2, 3, 5] rfl)
      refine lv_iload_n hx hb dX6_many_6 rfl (lv_at hl 3 rfl) ?_
      refine lv_aload_n hx hb dX6_many_7 rfl (lv_at hl 0 rfl) ?_
      refine va_get (D := G.1) (ci := 6) (v := .ref a0.2.2.1) (C := RX6) (T := TX6) (N := 14) hx hb hts hinX6 hown hK hP 0 rfl rfl 1 (by decide) lk0 (fun _ h9 => h9) rfl dX6_many_8 ?_
      refine lv_iconst (v := 4) hx hb dX6_many_11 (by decide) ?_
      refine va_iald hx hb hK hP 2 0 rfl rfl (by decide : inB 4 130) dX6_many_12 ?_
      refine zl_top (y := S0.2.1 4) rfl ?_
      refine lv_icmp_ge (tgt := 102) hx hb dX6_many_13 (by decide) (fun c10 => ?_) (fun c10 => ?_)
      · replace hf := ob_pos c10 hf
        refine lv_iload_n hx hb dX6_many_102 rfl (lv_at hl 2 rfl) ?_
        refine lv_if_ne (tgt := 110) hx hb dX6_many_103 (by decide) (fun c11 => ?_) (fun c11 => ?_)
        · replace hf := ob_neg c11 hf
          refine lv_iload_n hx hb dX6_many_110 rfl (lv_at hl 1 rfl) ?_
          refine lv_bipush (v := 9) hx hb dX6_many_111 (by decide) ?_
          refine lv_isub hx hb dX6_many_113 ?_
          refine lv_iload_n hx hb dX6_many_114 rfl (lv_at hl 2 rfl) ?_
          refine lv_iconst (v := 1) hx hb dX6_many_115 (by decide) ?_
          refine lv_iadd hx hb dX6_many_116 ?_
          refine lv_imul hx hb dX6_many_117 ?_
          refine lv_iload_n hx hb dX6_many_118 rfl (lv_at hl 2 rfl) ?_
          obtain ⟨hg12, hf⟩ := ob_guard hf
          refine lv_idiv hx hb dX6_many_119 hg12 ?_
          refine lv_iconst (v := 1) hx hb dX6_many_120 (by decide) ?_
          refine lv_isub hx hb dX6_many_121 ?_
          exact fin _ _ _ _ _ hf hP hD hS dX6_many_122
        · replace hf := ob_pos c11 hf
          refine lv_iconst (v := 0) hx hb dX6_many_106 (by decide) ?_
          refine lv_goto (tgt := 122) hx hb dX6_many_107 (by decide) ?_
          exact fin _ _ _ _ _ hf hP hD hS dX6_many_122
      · replace hf := ob_neg c10 hf
        refine lv_iconst (v := 0) hx hb dX6_many_16 (by decide) ?_
        refine lv_istore (lv' := [(4, .int 0), (0, .ref a0.1), (1, .int v1), (2, .int v2), (3, .int v3)]) hx hb dX6_many_17 hl (by decide) rfl (fun ls hl => ?_)
        refine lv_iconst (v := 0) hx hb dX6_many_19 (by decide) ?_
        refine lv_istore (lv' := [(5, .int 0), (4, .int 0), (0, .ref a0.1), (1, .int v1), (2, .int v2), (3, .int v3)]) hx hb dX6_many_20 hl (by decide) rfl (fun ls hl => ?_)
        exact blk22 4096 _ _ _ _ _ hf _ _ hP hD hS _ (lv_sub hl [2, 3, 4, 5, 1, 0] rfl)
  have go : ∀ (H : Heap) (locs : List Loc), va_P G.1 vwCl (ce_X6 G.2.1 a0 S0) H → va_D A (ce_X6 G.2.1 a0 S0) → va_S A s.heap H locs → ∀ (ls : Array Slot), lv_has ls 6 [(0, .ref a0.1)] → W p l e (headSpec wsX6_many rm_X6_many).room s m args below meth c H locs 0 0 Q (F0 m 0 ls []) := by
    intro H locs hP hD hS ls hl
    refine lv_iconst (v := 0) hx hb dX6_many_0 (by decide) ?_
    refine lv_istore_n (lv' := [(1, .int 0), (0, .ref a0.1)]) hx hb dX6_many_1 rfl hl (by decide) rfl (fun ls hl => ?_)
    refine lv_iconst (v := 0) hx hb dX6_many_2 (by decide) ?_
    refine lv_istore_n (lv' := [(2, .int 0), (1, .int 0), (0, .ref a0.1)]) hx hb dX6_many_3 rfl hl (by decide) rfl (fun ls hl => ?_)
    refine lv_iconst (v := 0) hx hb dX6_many_4 (by decide) ?_
    refine lv_istore_n (lv' := [(3, .int 0), (2, .int 0), (1, .int 0), (0, .ref a0.1)]) hx hb dX6_many_5 rfl hl (by decide) rfl (fun ls hl => ?_)
    exact blk6 4096 _ _ _ hf _ _ hP hD hS _ (lv_sub hl [3, 2, 1, 0] rfl)
  exact go _ _ hP hD hS _ hl
abbrev rm_X6_more : Room := { frames := 5, cells := 0, slots := 0, locals := 113 }
set_option maxHeartbeats 4000000 in
set_option maxRecDepth 100000 in
theorem c_X6_more (l : Launch) (G : zG) (a0 : AT_X6) (sz : Nat) (S0 : ST_X6) (out : Int32) (hf : f_X6_more S0 = some out) : Met l yX6_more wsX6_more rm_X6_more (PcM G (ce_X6 G.2.1 a0 S0) [.ref a0.1] sz) (QRo G (ce_X6 G.2.1 a0 S0) out (va_A (ce_X6 G.2.1 a0 S0) sz)) 0 0 (va_A (ce_X6 G.2.1 a0 S0) sz) := by
  rw [f_X6_more] at hf
  refine Met.ofW (cc := cX6_more) (maxL := 3) (ret := (some .int)) (by decide) rfl ?_
  intro p e s m args below meth c s₁ B hml hv
  obtain ⟨hargs, hsz, hP, hK, hD0, hE⟩ := hv
  have hx := B.exec
  have hb := B.bytes
  have hr := B.returns
  have hts := atoms_spec (ws := wsX6_more) B.pre
  have hown : s.vm.findClass RX6 = some m.cls := findClass_of_methodNamed B.named
  have hlocks := B.notSynchronized
  subst hsz
  have hD := hD0.self (sz := s.heap.size)
  generalize hAe : va_A (ce_X6 G.2.1 a0 S0) s.heap.size = A at hD hE ⊢
  have hA : ∀ q : Nat, s.heap.size ≤ q → A q := fun q h => by rw [← hAe]; exact Or.inr h
  have hS : va_S A s.heap s.heap [] := va_S.rf
  have hl := lv_entry ([.ref a0.1]) (n := 3) (Nat.le_of_ble_eq_true rfl)
  have hent : entryFrame m args 3 = F0 m 0 ((lg_sl ([.ref a0.1]) ++ List.replicate (3 - (lg_sl ([.ref a0.1])).length) Slot.unset).toArray) [] := by rw [hargs, lg_entry_eq]
  rw [hent]
  clear hent
  generalize (lg_sl ([.ref a0.1]) ++ List.replicate (3 - (lg_sl ([.ref a0.1])).length) Slot.unset).toArray = ls at hl ⊢
  have hl : lv_has ls 3 [(0, .ref a0.1)] := hl
  have lk0 := hts (Cond.fieldLink RX6 13 "EnginesOnListModel" "s" "[I") (List.mem_of_getElem? (i := 1) rfl)
  have hinX6 : ∀ w ∈ wsX60, w ∈ wsX6_more := by decide +kernel
  have fin : ∀ (pc : Nat) (v : Int32) (H : Heap) (locs : List Loc) (ls : Array Slot), some v = some out → va_P G.1 vwCl (ce_X6 G.2.1 a0 S0) H → va_D A (ce_X6 G.2.1 a0 S0) → va_S A s.heap H locs → decode cX6_more pc = .ok (.ireturn, 1) → W p l e (headSpec wsX6_more rm_X6_more).room s m args below meth c H locs 0 0 (MQ below (QRo G (ce_X6 G.2.1 a0 S0) out A) args s 0 0 A) (F0 m pc ls [.int v]) := fun pc v H locs ls ho hP hD hS hd => W.iret (v := v) hx hb hr (fun t ht hW => ⟨⟨v, (), rfl, Option.some.inj ho, by first | (rw [ht]; exact hP) | (dsimp only; rw [ht]; exact hP)⟩, hS.F ht⟩) hS.2.2 hd
  generalize MQ below (QRo G (ce_X6 G.2.1 a0 S0) out A) args s 0 0 A = Q at fin ⊢
  have blk4 : ∀ (fu4 : Nat), ∀ (v1 : Int32) (v2 : Int32), f_X6_more_b4 S0 fu4 v1 v2 = some out → ∀ (H : Heap) (locs : List Loc), va_P G.1 vwCl (ce_X6 G.2.1 a0 S0) H → va_D A (ce_X6 G.2.1 a0 S0) → va_S A s.heap H locs → ∀ (ls : Array Slot), lv_has ls 3 [(0, .ref a0.1), (1, .int v1), (2, .int v2)] → W p l e (headSpec wsX6_more rm_X6_more).room s m args below meth c H locs 0 0 Q (F0 m 4 ls []) := by
    intro fu4
    induction fu4 with
    | zero => intro v1 v2 hf; exact ob_none hf
    | succ fu4 ih4 =>
      intro v1 v2 hf H locs hP hD hS ls hl
      rw [f_X6_more_b4] at hf
      have blk35 : ∀ (v1 : Int32) (v2 : Int32), f_X6_more_b35 S0 (f_X6_more_b4 S0 fu4) v1 v2 = some out → ∀ (H : Heap) (locs : List Loc), va_P G.1 vwCl (ce_X6 G.2.1 a0 S0) H → va_D A (ce_X6 G.2.1 a0 S0) → va_S A s.heap H locs → ∀ (ls : Array Slot), lv_has ls 3 [(0, .ref a0.1), (1, .int v1), (2, .int v2)] → W p l e (headSpec wsX6_more rm_X6_more).room s m args below meth c H locs 0 0 Q (F0 m 35 ls []) := by
        intro v1 v2 hf H locs hP hD hS ls hl
        rw [f_X6_more_b35] at hf
        refine lv_iinc (v := v2 + 1) (lv' := [(2, .int (v2 + 1)), (0, .ref a0.1), (1, .int v1)]) hx hb dX6_more_35 hl (k := 2) rfl rfl (by decide) rfl (fun ls hl => ?_)
        refine lv_goto (tgt := 4) hx hb dX6_more_38 (by decide) ?_
        exact ih4 _ _ hf _ _ hP hD hS _ (lv_sub hl [1, 2, 0] rfl)
      refine lv_iload_n hx hb dX6_more_4 rfl (lv_at hl 2 rfl) ?_
      refine lv_aload_n hx hb dX6_more_5 rfl (lv_at hl 0 rfl) ?_
      refine va_get (D := G.1) (ci := 6) (v := .ref a0.2.2.1) (C := RX6) (T := TX6) (N := 14) hx hb hts hinX6 hown hK hP 0 rfl rfl 1 (by decide) lk0 (fun _ h9 => h9) rfl dX6_more_6 ?_
      refine lv_iconst (v := 0) hx hb dX6_more_9 (by decide) ?_
      refine va_iald hx hb hK hP 2 0 rfl rfl (by decide : inB 0 130) dX6_more_10 ?_
      refine zl_top (y := S0.2.1 0) rfl ?_
      refine lv_icmp_ge (tgt := 41) hx hb dX6_more_11 (by decide) (fun c1 => ?_) (fun c1 => ?_)
      · replace hf := ob_pos c1 hf
        refine lv_aload_n hx hb dX6_more_41 rfl (lv_at hl 0 rfl) ?_
        refine lv_iload_n hx hb dX6_more_42 rfl (lv_at hl 1 rfl) ?_
        refine lv_iconst (v := 1) hx hb dX6_more_43 (by decide) ?_
        obtain ⟨r2, hr2, hf⟩ := ob_bind hf
        have hFc := va_free (wc := ce_X6 G.2.1 a0 S0) hD hS hA [0, 1, 2, 3, 4, 5, 6, 7, 8, 9] rfl
        refine zc_ro (va_runV (As := [.int v1, .int 1]) (rest := []) ⟨hx, hb, hml, hown, hts⟩ (c_X6_worth l G a0 H.size S0 v1 1 _ hr2) (cwV 2 hts gX6_more_X6_worth rfl rfl rfl (by decide +kernel) ⟨Nat.le_of_ble_eq_true rfl, Nat.le_of_ble_eq_true rfl⟩) ⟨PcM.blind, va_recv hK hP (ci := 6) (q0 := 0) rfl rfl, PcM.ok hP hD hK hE hS hFc⟩ rfl rfl hl.1 rfl (lv_room (Nat.le_of_ble_eq_true rfl)) dX6_more_44 ⟨Nat.le_refl _, Nat.le_refl _⟩) hP hD hS hA [0, 1, 2, 3, 4, 5, 6, 7, 8, 9] rfl (fun H locs hP hS => ?_)
        exact fin _ _ _ _ _ hf hP hD hS dX6_more_47
      · replace hf := ob_neg c1 hf
        refine lv_aload_n hx hb dX6_more_14 rfl (lv_at hl 0 rfl) ?_
        refine lv_iload_n hx hb dX6_more_15 rfl (lv_at hl 2 rfl) ?_
        obtain ⟨r3, hr3, hf⟩ := ob_bind hf
        have hFc := va_free (wc := ce_X6 G.2.1 a0 S0) hD hS hA [0, 1, 2, 3, 4, 5, 6, 7, 8, 9] rfl
        refine zc_ro (va_runV (As := [.int v2]) (rest := []) ⟨hx, hb, hml, hown, hts⟩ (c_X6_groupOf l G a0 H.size S0 v2 _ hr3) (cwV 1 hts gX6_more_X6_groupOf rfl rfl rfl (by decide +kernel) ⟨Nat.le_of_ble_eq_true rfl, Nat.le_of_ble_eq_true rfl⟩) ⟨PcM.blind, va_recv hK hP (ci := 6) (q0 := 0) rfl rfl, PcM.ok hP hD hK hE hS hFc⟩ rfl rfl hl.1 rfl (lv_room (Nat.le_of_ble_eq_true rfl)) dX6_more_16 ⟨Nat.le_refl _, Nat.le_refl _⟩) hP hD hS hA [0, 1, 2, 3, 4, 5, 6, 7, 8, 9] rfl (fun H locs hP hS => ?_)
        refine lv_aload_n hx hb dX6_more_19 rfl (lv_at hl 0 rfl) ?_
        refine va_get (D := G.1) (ci := 6) (v := .ref a0.2.2.1) (C := RX6) (T := TX6) (N := 14) hx hb hts hinX6 hown hK hP 0 rfl rfl 1 (by decide) lk0 (fun _ h9 => h9) rfl dX6_more_20 ?_
        refine lv_iconst (v := 3) hx hb dX6_more_23 (by decide) ?_
        refine va_iald hx hb hK hP 2 0 rfl rfl (by decide : inB 3 130) dX6_more_24 ?_
        refine zl_top (y := S0.2.1 3) rfl ?_
        refine lv_iand hx hb dX6_more_25 ?_
        refine lv_if_ne (tgt := 35) hx hb dX6_more_26 (by decide) (fun c4 => ?_) (fun c4 => ?_)
        · replace hf := ob_neg c4 hf
          exact blk35 _ _ hf _ _ hP hD hS _ (lv_sub hl [0, 1, 2] rfl)
        · replace hf := ob_pos c4 hf
          refine lv_iload_n hx hb dX6_more_29 rfl (lv_at hl 1 rfl) ?_
          refine lv_iconst (v := 1) hx hb dX6_more_30 (by decide) ?_
          refine lv_iload_n hx hb dX6_more_31 rfl (lv_at hl 2 rfl) ?_
          refine lv_ishl hx hb dX6_more_32 ?_
          refine lv_ior hx hb dX6_more_33 ?_
          refine lv_istore_n (lv' := [(1, .int (v1 ||| (1 <<< (v2 &&& 31)))), (0, .ref a0.1), (2, .int v2)]) hx hb dX6_more_34 rfl hl (by decide) rfl (fun ls hl => ?_)
          exact blk35 _ _ hf _ _ hP hD hS _ (lv_sub hl [1, 0, 2] rfl)
  have go : ∀ (H : Heap) (locs : List Loc), va_P G.1 vwCl (ce_X6 G.2.1 a0 S0) H → va_D A (ce_X6 G.2.1 a0 S0) → va_S A s.heap H locs → ∀ (ls : Array Slot), lv_has ls 3 [(0, .ref a0.1)] → W p l e (headSpec wsX6_more rm_X6_more).room s m args below meth c H locs 0 0 Q (F0 m 0 ls []) := by
    intro H locs hP hD hS ls hl
    refine lv_iconst (v := 0) hx hb dX6_more_0 (by decide) ?_
    refine lv_istore_n (lv' := [(1, .int 0), (0, .ref a0.1)]) hx hb dX6_more_1 rfl hl (by decide) rfl (fun ls hl => ?_)
    refine lv_iconst (v := 0) hx hb dX6_more_2 (by decide) ?_
    refine lv_istore_n (lv' := [(2, .int 0), (1, .int 0), (0, .ref a0.1)]) hx hb dX6_more_3 rfl hl (by decide) rfl (fun ls hl => ?_)
    exact blk4 4096 _ _ hf _ _ hP hD hS _ (lv_sub hl [2, 1, 0] rfl)
  exact go _ _ hP hD hS _ hl
abbrev rm_X6_seeds : Room := { frames := 7, cells := 0, slots := 0, locals := 158 }
set_option maxHeartbeats 4000000 in
set_option maxRecDepth 100000 in
theorem c_X6_seeds (l : Launch) (G : zG) (a0 : AT_X6) (sz : Nat) (S0 : ST_X6) (p1 : Int32) (p2 : Int32) (out : Int32 × ST_X6) (hf : f_X6_seeds S0 p1 p2 = some out) : Met l yX6_seeds wsX6_seeds rm_X6_seeds (PcM G (ce_X6 G.2.1 a0 S0) [.ref a0.1, .int p1, .int p2] sz) (QWr G (fun u => ce_X6 G.2.1 a0 u) out (va_A (ce_X6 G.2.1 a0 S0) sz)) 0 0 (va_A (ce_X6 G.2.1 a0 S0) sz) := by
  rw [f_X6_seeds] at hf
  refine Met.ofW (cc := cX6_seeds) (maxL := 8) (ret := (some .int)) (by decide) rfl ?_
  intro p e s m args below meth c s₁ B hml hv
  obtain ⟨hargs, hsz, hP, hK, hD0, hE⟩ := hv
  have hx := B.exec
  have hb := B.bytes
  have hr := B.returns
  have hts := atoms_spec (ws := wsX6_seeds) B.pre
  have hown : s.vm.findClass RX6 = some m.cls := findClass_of_methodNamed B.named
  have hlocks := B.notSynchronized
  subst hsz
  have hD := hD0.self (sz := s.heap.size)
  generalize hAe : va_A (ce_X6 G.2.1 a0 S0) s.heap.size = A at hD hE ⊢
  have hA : ∀ q : Nat, s.heap.size ≤ q → A q := fun q h => by rw [← hAe]; exact Or.inr h
  have hS : va_S A s.heap s.heap [] := va_S.rf
  have hl := lv_entry ([.ref a0.1, .int p1, .int p2]) (n := 8) (Nat.le_of_ble_eq_true rfl)
  have hent : entryFrame m args 8 = F0 m 0 ((lg_sl ([.ref a0.1, .int p1, .int p2]) ++ List.replicate (8 - (lg_sl ([.ref a0.1, .int p1, .int p2])).length) Slot.unset).toArray) [] := by rw [hargs, lg_entry_eq]
  rw [hent]
  clear hent
  generalize (lg_sl ([.ref a0.1, .int p1, .int p2]) ++ List.replicate (8 - (lg_sl ([.ref a0.1, .int p1, .int p2])).length) Slot.unset).toArray = ls at hl ⊢
  have hl : lv_has ls 8 [(0, .ref a0.1), (1, .int p1), (2, .int p2)] := hl
  have lk0 := hts (Cond.fieldLink RX6 13 "EnginesOnListModel" "s" "[I") (List.mem_of_getElem? (i := 1) rfl)
  have lk1 := hts (Cond.constant RX6 167 (1664525)) (List.mem_of_getElem? (i := 2) rfl)
  have lk2 := hts (Cond.constant RX6 168 (1013904223)) (List.mem_of_getElem? (i := 3) rfl)
  have lk3 := hts (Cond.constant RX6 169 (2147483647)) (List.mem_of_getElem? (i := 4) rfl)
  have hinX6 : ∀ w ∈ wsX60, w ∈ wsX6_seeds := by decide +kernel
  have fin : ∀ (pc : Nat) (v : Int32) (u : ST_X6) (H : Heap) (locs : List Loc) (ls : Array Slot), some (v, u) = some out → va_P G.1 vwCl (ce_X6 G.2.1 a0 u) H → va_D A (ce_X6 G.2.1 a0 u) → va_S A s.heap H locs → decode cX6_seeds pc = .ok (.ireturn, 1) → W p l e (headSpec wsX6_seeds rm_X6_seeds).room s m args below meth c H locs 0 0 (MQ below (QWr G (fun u => ce_X6 G.2.1 a0 u) out A) args s 0 0 A) (F0 m pc ls [.int v]) := fun pc v u H locs ls ho hP hD hS hd => W.iret (v := v) hx hb hr (fun t ht hW => ⟨⟨v, u, rfl, ob_pair ho, by first | (rw [ht]; exact hP) | (dsimp only; rw [ht]; exact hP), hD⟩, hS.F ht⟩) hS.2.2 hd
  generalize MQ below (QWr G (fun u => ce_X6 G.2.1 a0 u) out A) args s 0 0 A = Q at fin ⊢
  have blk35 : ∀ (fu35 : Nat), ∀ (S0 : ST_X6) (v1 : Int32) (v4 : Int32) (v5 : Int32) (v6 : Int32) (v7 : Int32), f_X6_seeds_b35 fu35 S0 v1 v4 v5 v6 v7 = some out → ∀ (H : Heap) (locs : List Loc), va_P G.1 vwCl (ce_X6 G.2.1 a0 S0) H → va_D A (ce_X6 G.2.1 a0 S0) → va_S A s.heap H locs → ∀ (ls : Array Slot), lv_has ls 8 [(0, .ref a0.1), (1, .int v1), (4, .int v4), (5, .int v5), (6, .int v6), (7, .int v7)] → W p l e (headSpec wsX6_seeds rm_X6_seeds).room s m args below meth c H locs 0 0 Q (F0 m 35 ls []) := by
    intro fu35
    induction fu35 with
    | zero => intro S0 v1 v4 v5 v6 v7 hf; exact ob_none hf
    | succ fu35 ih35 =>
      intro S0 v1 v4 v5 v6 v7 hf H locs hP hD hS ls hl
      rw [f_X6_seeds_b35] at hf
      refine lv_iload hx hb dX6_seeds_35 (lv_at hl 5 rfl) ?_
      refine lv_iload_n hx hb dX6_seeds_37 rfl (lv_at hl 1 rfl) ?_
      refine lv_icmp_ge (tgt := 86) hx hb dX6_seeds_38 (by decide) (fun c1 => ?_) (fun c1 => ?_)
      · replace hf := ob_pos c1 hf
        refine lv_aload_n hx hb dX6_seeds_86 rfl (lv_at hl 0 rfl) ?_
        refine va_get (D := G.1) (ci := 6) (v := .ref a0.2.2.1) (C := RX6) (T := TX6) (N := 14) hx hb hts hinX6 hown hK hP 0 rfl rfl 1 (by decide) lk0 (fun _ h9 => h9) rfl dX6_seeds_87 ?_
        refine lv_iconst (v := 2) hx hb dX6_seeds_90 (by decide) ?_
        refine lv_iload hx hb dX6_seeds_91 (lv_at hl 2 rfl) ?_
        refine va_iast hx hb hK hP hD hS 2 0 rfl rfl (by decide : inB 2 130) dX6_seeds_93 (fun H locs hP hD hS => ?_)
        have hP : va_P G.1 vwCl (ce_X6 G.2.1 a0 (S0.1, (upd S0.2.1 2 v4), S0.2.2.1, S0.2.2.2.1, S0.2.2.2.2.1, S0.2.2.2.2.2.1, S0.2.2.2.2.2.2.1, S0.2.2.2.2.2.2.2.1, S0.2.2.2.2.2.2.2.2.1, S0.2.2.2.2.2.2.2.2.2.1, S0.2.2.2.2.2.2.2.2.2.2.1, S0.2.2.2.2.2.2.2.2.2.2.2.1, S0.2.2.2.2.2.2.2.2.2.2.2.2.1, S0.2.2.2.2.2.2.2.2.2.2.2.2.2)) H := hP
        have hD : va_D A (ce_X6 G.2.1 a0 (S0.1, (upd S0.2.1 2 v4), S0.2.2.1, S0.2.2.2.1, S0.2.2.2.2.1, S0.2.2.2.2.2.1, S0.2.2.2.2.2.2.1, S0.2.2.2.2.2.2.2.1, S0.2.2.2.2.2.2.2.2.1, S0.2.2.2.2.2.2.2.2.2.1, S0.2.2.2.2.2.2.2.2.2.2.1, S0.2.2.2.2.2.2.2.2.2.2.2.1, S0.2.2.2.2.2.2.2.2.2.2.2.2.1, S0.2.2.2.2.2.2.2.2.2.2.2.2.2)) := hD
        refine lv_iload hx hb dX6_seeds_94 (lv_at hl 4 rfl) ?_
        exact fin _ _ _ _ _ _ hf hP hD hS dX6_seeds_96
      · replace hf := ob_neg c1 hf
        refine lv_iload hx hb dX6_seeds_41 (lv_at hl 3 rfl) ?_
        refine lv_ldc (v := 1664525) hx hb hown lk1 dX6_seeds_43 ?_
        refine lv_imul hx hb dX6_seeds_45 ?_
        refine lv_ldc (v := 1013904223) hx hb hown lk2 dX6_seeds_46 ?_
        refine lv_iadd hx hb dX6_seeds_48 ?_
        refine lv_istore (lv' := [(5, .int ((v5 * 1664525) + 1013904223)), (0, .ref a0.1), (1, .int v1), (4, .int v4), (6, .int v6), (7, .int v7)]) hx hb dX6_seeds_49 hl (by decide) rfl (fun ls hl => ?_)
        refine lv_iload hx hb dX6_seeds_51 (lv_at hl 4 rfl) ?_
        refine lv_aload_n hx hb dX6_seeds_53 rfl (lv_at hl 1 rfl) ?_
        refine lv_iload hx hb dX6_seeds_54 (lv_at hl 0 rfl) ?_
        refine lv_ldc (v := 2147483647) hx hb hown lk3 dX6_seeds_56 ?_
        refine lv_iand hx hb dX6_seeds_58 ?_
        refine lv_sipush (v := 256) hx hb dX6_seeds_59 (by decide) ?_
        refine lv_idiv hx hb dX6_seeds_62 (by decide) ?_
        refine lv_iconst (v := 5) hx hb dX6_seeds_63 (by decide) ?_
        refine lv_irem hx hb dX6_seeds_64 (by decide) ?_
        refine lv_aload_n hx hb dX6_seeds_65 rfl (lv_at hl 1 rfl) ?_
        refine va_get (D := G.1) (ci := 6) (v := .ref a0.2.2.1) (C := RX6) (T := TX6) (N := 14) hx hb hts hinX6 hown hK hP 0 rfl rfl 1 (by decide) lk0 (fun _ h9 => h9) rfl dX6_seeds_66 ?_
        refine lv_iconst (v := 1) hx hb dX6_seeds_69 (by decide) ?_
        refine va_iald hx hb hK hP 2 0 rfl rfl (by decide : inB 1 130) dX6_seeds_70 ?_
        refine zl_top (y := S0.2.1 1) rfl ?_
        refine lv_iload hx hb dX6_seeds_71 (lv_at hl 5 rfl) ?_
        refine lv_iadd hx hb dX6_seeds_73 ?_
        obtain ⟨r2, hr2, hf⟩ := ob_bind hf
        have hFc := va_free (wc := ce_X6 G.2.1 a0 S0) hD hS hA [0, 1, 2, 3, 4, 5, 6, 7, 8, 9] rfl
        refine zc_wr (cf := (fun u => ce_X6 G.2.1 a0 u)) (ws' := ce_X6 G.2.1 a0 r2.2) (va_runV (As := [.int (((((v5 * 1664525) + 1013904223) &&& 2147483647) / 256) - ((((v5 * 1664525) + 1013904223) &&& 2147483647) / 256) / 5 * 5), .int ((S0.2.1 1) + v7)]) (rest := [.int v6]) ⟨hx, hb, hml, hown, hts⟩ (c_X6_stands l G a0 H.size S0 (((((v5 * 1664525) + 1013904223) &&& 2147483647) / 256) - ((((v5 * 1664525) + 1013904223) &&& 2147483647) / 256) / 5 * 5) ((S0.2.1 1) + v7) _ hr2) (cwV 2 hts gX6_seeds_X6_stands rfl rfl rfl (by decide +kernel) ⟨Nat.le_of_ble_eq_true rfl, Nat.le_of_ble_eq_true rfl⟩) ⟨PcM.blind, va_recv hK hP (ci := 6) (q0 := 0) rfl rfl, PcM.ok hP hD hK hE hS hFc⟩ rfl rfl hl.1 rfl (lv_room (Nat.le_of_ble_eq_true rfl)) dX6_seeds_74 ⟨Nat.le_refl _, Nat.le_refl _⟩) hP hD hS hA [0, 1, 2, 3, 4, 5, 6, 7, 8, 9] [] [0, 1, 2, 3, 4, 5, 6, 7, 8, 9] rfl rfl (by decide) (by decide) (by decide) rfl (fun H locs hP hD hS => ?_)
        refine lv_iadd hx hb dX6_seeds_77 ?_
        refine lv_istore (lv' := [(6, .int (v6 + r2.1)), (5, .int ((v5 * 1664525) + 1013904223)), (0, .ref a0.1), (1, .int v1), (4, .int v4), (7, .int v7)]) hx hb dX6_seeds_78 hl (by decide) rfl (fun ls hl => ?_)
        refine lv_iinc (v := v7 + 1) (lv' := [(7, .int (v7 + 1)), (6, .int (v6 + r2.1)), (5, .int ((v5 * 1664525) + 1013904223)), (0, .ref a0.1), (1, .int v1), (4, .int v4)]) hx hb dX6_seeds_80 hl (k := 5) rfl rfl (by decide) rfl (fun ls hl => ?_)
        refine lv_goto (tgt := 35) hx hb dX6_seeds_83 (by decide) ?_
        exact ih35 _ _ _ _ _ _ hf _ _ hP hD hS _ (lv_sub hl [3, 4, 5, 2, 1, 0] rfl)
  have go : ∀ (H : Heap) (locs : List Loc), va_P G.1 vwCl (ce_X6 G.2.1 a0 S0) H → va_D A (ce_X6 G.2.1 a0 S0) → va_S A s.heap H locs → ∀ (ls : Array Slot), lv_has ls 8 [(0, .ref a0.1), (1, .int p1), (2, .int p2)] → W p l e (headSpec wsX6_seeds rm_X6_seeds).room s m args below meth c H locs 0 0 Q (F0 m 0 ls []) := by
    intro H locs hP hD hS ls hl
    refine lv_iload_n hx hb dX6_seeds_0 rfl (lv_at hl 1 rfl) ?_
    refine lv_iconst (v := 1) hx hb dX6_seeds_1 (by decide) ?_
    refine lv_bipush (v := 30) hx hb dX6_seeds_2 (by decide) ?_
    obtain ⟨r3, hr3, hf⟩ := ob_bind hf
    have hPc : va_P G.1 vwCl (([] : va_W)) H := hP.sub [] rfl
    have hDc : va_D A (([] : va_W)) := hD.sub [] (by decide) rfl
    have hFc := va_free (wc := ([] : va_W)) hD hS hA [] rfl
    refine zc_ro (va_runS (As := [.int p1, .int 1, .int 30]) (rest := []) ⟨hx, hb, hml, hown, hts⟩ (c_X6_within l G H.size p1 1 30 _ hr3) (va_cwS 3 hts gX6_seeds_X6_within rfl rfl rfl (by decide +kernel) ⟨Nat.le_of_ble_eq_true rfl, Nat.le_of_ble_eq_true rfl⟩) ⟨PcM.blind, PcM.ok hPc hDc hK hE hS hFc⟩ rfl rfl hl.1 rfl (lv_room (Nat.le_of_ble_eq_true rfl)) dX6_seeds_4 ⟨Nat.le_refl _, Nat.le_refl _⟩) hP hD hS hA [] rfl (fun H locs hP hS => ?_)
    refine lv_istore_n (lv' := [(3, .int r3), (0, .ref a0.1), (1, .int p1), (2, .int p2)]) hx hb dX6_seeds_7 rfl hl (by decide) rfl (fun ls hl => ?_)
    refine lv_iload_n hx hb dX6_seeds_8 rfl (lv_at hl 0 rfl) ?_
    refine lv_if_eq (tgt := 18) hx hb dX6_seeds_9 (by decide) (fun c4 => ?_) (fun c4 => ?_)
    · replace hf := ob_pos c4 hf
      refine lv_aload_n hx hb dX6_seeds_18 rfl (lv_at hl 1 rfl) ?_
      refine va_get (D := G.1) (ci := 6) (v := .ref a0.2.2.1) (C := RX6) (T := TX6) (N := 14) hx hb hts hinX6 hown hK hP 0 rfl rfl 1 (by decide) lk0 (fun _ h9 => h9) rfl dX6_seeds_19 ?_
      refine lv_iconst (v := 2) hx hb dX6_seeds_22 (by decide) ?_
      refine va_iald hx hb hK hP 2 0 rfl rfl (by decide : inB 2 130) dX6_seeds_23 ?_
      refine zl_top (y := S0.2.1 2) rfl ?_
      refine lv_istore (lv' := [(4, .int (S0.2.1 2)), (3, .int r3), (0, .ref a0.1), (1, .int p1), (2, .int p2)]) hx hb dX6_seeds_24 hl (by decide) rfl (fun ls hl => ?_)
      refine lv_iload_n hx hb dX6_seeds_26 rfl (lv_at hl 4 rfl) ?_
      refine lv_istore (lv' := [(5, .int p2), (4, .int (S0.2.1 2)), (3, .int r3), (0, .ref a0.1), (1, .int p1), (2, .int p2)]) hx hb dX6_seeds_27 hl (by decide) rfl (fun ls hl => ?_)
      refine lv_iconst (v := 0) hx hb dX6_seeds_29 (by decide) ?_
      refine lv_istore (lv' := [(6, .int 0), (5, .int p2), (4, .int (S0.2.1 2)), (3, .int r3), (0, .ref a0.1), (1, .int p1), (2, .int p2)]) hx hb dX6_seeds_30 hl (by decide) rfl (fun ls hl => ?_)
      refine lv_iconst (v := 0) hx hb dX6_seeds_32 (by decide) ?_
      refine lv_istore (lv' := [(7, .int 0), (6, .int 0), (5, .int p2), (4, .int (S0.2.1 2)), (3, .int r3), (0, .ref a0.1), (1, .int p1), (2, .int p2)]) hx hb dX6_seeds_33 hl (by decide) rfl (fun ls hl => ?_)
      exact blk35 4096 _ _ _ _ _ _ hf _ _ hP hD hS _ (lv_sub hl [5, 6, 3, 2, 1, 0] rfl)
    · replace hf := ob_neg c4 hf
      refine lv_aload_n hx hb dX6_seeds_12 rfl (lv_at hl 1 rfl) ?_
      refine lv_iload_n hx hb dX6_seeds_13 rfl (lv_at hl 0 rfl) ?_
      obtain ⟨r5, hr5, hf⟩ := ob_bind hf
      have hFc := va_free (wc := ce_X6 G.2.1 a0 S0) hD hS hA [0, 1, 2, 3, 4, 5, 6, 7, 8, 9] rfl
      refine zc_wr (cf := (fun u => ce_X6 G.2.1 a0 u)) (ws' := ce_X6 G.2.1 a0 r5.2) (va_runV (As := [.int r3]) (rest := []) ⟨hx, hb, hml, hown, hts⟩ (c_X6_refuse l G a0 H.size S0 r3 _ hr5) (cwV 1 hts gX6_seeds_X6_refuse rfl rfl rfl (by decide +kernel) ⟨Nat.le_of_ble_eq_true rfl, Nat.le_of_ble_eq_true rfl⟩) ⟨PcM.blind, va_recv hK hP (ci := 6) (q0 := 0) rfl rfl, PcM.ok hP hD hK hE hS hFc⟩ rfl rfl hl.1 rfl (lv_room (Nat.le_of_ble_eq_true rfl)) dX6_seeds_14 ⟨Nat.le_refl _, Nat.le_refl _⟩) hP hD hS hA [0, 1, 2, 3, 4, 5, 6, 7, 8, 9] [] [0, 1, 2, 3, 4, 5, 6, 7, 8, 9] rfl rfl (by decide) (by decide) (by decide) rfl (fun H locs hP hD hS => ?_)
      exact fin _ _ _ _ _ _ hf hP hD hS dX6_seeds_17
  exact go _ _ hP hD hS _ hl
abbrev rm_X6_row : Room := { frames := 2, cells := 0, slots := 0, locals := 46 }
set_option maxHeartbeats 4000000 in
set_option maxRecDepth 100000 in
theorem c_X6_row (l : Launch) (G : zG) (a0 : AT_X6) (sz : Nat) (S0 : ST_X6) (p1 : Int32) (out : Int32 × ST_X6) (hf : f_X6_row S0 p1 = some out) : Met l yX6_row wsX6_row rm_X6_row (PcM G (ce_X6 G.2.1 a0 S0) [.ref a0.1, .int p1] sz) (QWr G (fun u => ce_X6 G.2.1 a0 u) out (va_A (ce_X6 G.2.1 a0 S0) sz)) 0 0 (va_A (ce_X6 G.2.1 a0 S0) sz) := by
  rw [f_X6_row] at hf
  refine Met.ofW (cc := cX6_row) (maxL := 3) (ret := (some .int)) (by decide) rfl ?_
  intro p e s m args below meth c s₁ B hml hv
  obtain ⟨hargs, hsz, hP, hK, hD0, hE⟩ := hv
  have hx := B.exec
  have hb := B.bytes
  have hr := B.returns
  have hts := atoms_spec (ws := wsX6_row) B.pre
  have hown : s.vm.findClass RX6 = some m.cls := findClass_of_methodNamed B.named
  have hlocks := B.notSynchronized
  subst hsz
  have hD := hD0.self (sz := s.heap.size)
  generalize hAe : va_A (ce_X6 G.2.1 a0 S0) s.heap.size = A at hD hE ⊢
  have hA : ∀ q : Nat, s.heap.size ≤ q → A q := fun q h => by rw [← hAe]; exact Or.inr h
  have hS : va_S A s.heap s.heap [] := va_S.rf
  have hl := lv_entry ([.ref a0.1, .int p1]) (n := 3) (Nat.le_of_ble_eq_true rfl)
  have hent : entryFrame m args 3 = F0 m 0 ((lg_sl ([.ref a0.1, .int p1]) ++ List.replicate (3 - (lg_sl ([.ref a0.1, .int p1])).length) Slot.unset).toArray) [] := by rw [hargs, lg_entry_eq]
  rw [hent]
  clear hent
  generalize (lg_sl ([.ref a0.1, .int p1]) ++ List.replicate (3 - (lg_sl ([.ref a0.1, .int p1])).length) Slot.unset).toArray = ls at hl ⊢
  have hl : lv_has ls 3 [(0, .ref a0.1), (1, .int p1)] := hl
  have lk0 := hts (Cond.fieldLink RX6 34 "EnginesOnListModel" "row" "[I") (List.mem_of_getElem? (i := 2) rfl)
  have lk1 := hts (Cond.fieldLink RX6 170 "EnginesOnListModel" "rowed" "I") (List.mem_of_getElem? (i := 1) rfl)
  have hinX6 : ∀ w ∈ wsX60, w ∈ wsX6_row := by decide +kernel
  have fin : ∀ (pc : Nat) (v : Int32) (u : ST_X6) (H : Heap) (locs : List Loc) (ls : Array Slot), some (v, u) = some out → va_P G.1 vwCl (ce_X6 G.2.1 a0 u) H → va_D A (ce_X6 G.2.1 a0 u) → va_S A s.heap H locs → decode cX6_row pc = .ok (.ireturn, 1) → W p l e (headSpec wsX6_row rm_X6_row).room s m args below meth c H locs 0 0 (MQ below (QWr G (fun u => ce_X6 G.2.1 a0 u) out A) args s 0 0 A) (F0 m pc ls [.int v]) := fun pc v u H locs ls ho hP hD hS hd => W.iret (v := v) hx hb hr (fun t ht hW => ⟨⟨v, u, rfl, ob_pair ho, by first | (rw [ht]; exact hP) | (dsimp only; rw [ht]; exact hP), hD⟩, hS.F ht⟩) hS.2.2 hd
  generalize MQ below (QWr G (fun u => ce_X6 G.2.1 a0 u) out A) args s 0 0 A = Q at fin ⊢
  have blk24 : ∀ (S0 : ST_X6) (v1 : Int32) (v2 : Int32), f_X6_row_b24 S0 v1 v2 = some out → ∀ (H : Heap) (locs : List Loc), va_P G.1 vwCl (ce_X6 G.2.1 a0 S0) H → va_D A (ce_X6 G.2.1 a0 S0) → va_S A s.heap H locs → ∀ (ls : Array Slot), lv_has ls 3 [(0, .ref a0.1), (1, .int v1), (2, .int v2)] → W p l e (headSpec wsX6_row rm_X6_row).room s m args below meth c H locs 0 0 Q (F0 m 24 ls []) := by
    intro S0 v1 v2 hf H locs hP hD hS ls hl
    rw [f_X6_row_b24] at hf
    refine lv_iload_n hx hb dX6_row_24 rfl (lv_at hl 2 rfl) ?_
    refine lv_if_eq (tgt := 34) hx hb dX6_row_25 (by decide) (fun c1 => ?_) (fun c1 => ?_)
    · replace hf := ob_pos c1 hf
      refine lv_aload_n hx hb dX6_row_34 rfl (lv_at hl 0 rfl) ?_
      refine va_get (D := G.1) (ci := 6) (v := .ref a0.2.2.2.2.2.2.2.2.2) (C := RX6) (T := TX6) (N := 14) hx hb hts hinX6 hown hK hP 0 rfl rfl 12 (by decide) lk0 (fun _ h9 => h9) rfl dX6_row_35 ?_
      refine lv_aload_n hx hb dX6_row_38 rfl (lv_at hl 0 rfl) ?_
      refine va_get (D := G.1) (ci := 6) (v := .int S0.2.2.2.2.2.2.2.2.2.2.2.2.2) (C := RX6) (T := TX6) (N := 14) hx hb hts hinX6 hown hK hP 0 rfl rfl 13 (by decide) lk1 (fun _ h9 => h9) rfl dX6_row_39 ?_
      refine lv_iload_n hx hb dX6_row_42 rfl (lv_at hl 1 rfl) ?_
      obtain ⟨hg2, hf⟩ := ob_guard hf
      refine va_iast hx hb hK hP hD hS 9 0 rfl rfl hg2 dX6_row_43 (fun H locs hP hD hS => ?_)
      have hP : va_P G.1 vwCl (ce_X6 G.2.1 a0 (S0.1, S0.2.1, S0.2.2.1, S0.2.2.2.1, S0.2.2.2.2.1, S0.2.2.2.2.2.1, S0.2.2.2.2.2.2.1, S0.2.2.2.2.2.2.2.1, S0.2.2.2.2.2.2.2.2.1, S0.2.2.2.2.2.2.2.2.2.1, S0.2.2.2.2.2.2.2.2.2.2.1, S0.2.2.2.2.2.2.2.2.2.2.2.1, (upd S0.2.2.2.2.2.2.2.2.2.2.2.2.1 (S0.2.2.2.2.2.2.2.2.2.2.2.2.2.toNatClampNeg) v1), S0.2.2.2.2.2.2.2.2.2.2.2.2.2)) H := hP
      have hD : va_D A (ce_X6 G.2.1 a0 (S0.1, S0.2.1, S0.2.2.1, S0.2.2.2.1, S0.2.2.2.2.1, S0.2.2.2.2.2.1, S0.2.2.2.2.2.2.1, S0.2.2.2.2.2.2.2.1, S0.2.2.2.2.2.2.2.2.1, S0.2.2.2.2.2.2.2.2.2.1, S0.2.2.2.2.2.2.2.2.2.2.1, S0.2.2.2.2.2.2.2.2.2.2.2.1, (upd S0.2.2.2.2.2.2.2.2.2.2.2.2.1 (S0.2.2.2.2.2.2.2.2.2.2.2.2.2.toNatClampNeg) v1), S0.2.2.2.2.2.2.2.2.2.2.2.2.2)) := hD
      refine lv_aload_n hx hb dX6_row_44 rfl (lv_at hl 0 rfl) ?_
      refine lv_dup hx hb dX6_row_45 rfl ?_
      refine va_get (D := G.1) (ci := 6) (v := .int S0.2.2.2.2.2.2.2.2.2.2.2.2.2) (C := RX6) (T := TX6) (N := 14) hx hb hts hinX6 hown hK hP 0 rfl rfl 13 (by decide) lk1 (fun _ h9 => h9) rfl dX6_row_46 ?_
      refine lv_iconst (v := 1) hx hb dX6_row_49 (by decide) ?_
      refine lv_iadd hx hb dX6_row_50 ?_
      refine va_put (D := G.1) (ci := 6) (v := .int (S0.2.2.2.2.2.2.2.2.2.2.2.2.2 + 1)) (ty := .int) (C := RX6) (T := TX6) (N := 14) hx hb hts hinX6 tyX6 tyX6_ok nmX6 hown hK hP hD hS 0 rfl rfl 13 (by decide) lk1 (fun _ h9 => h9) rfl (by decide +kernel) rfl rfl (Nat.le_of_ble_eq_true rfl) dX6_row_51 (fun H locs hP hD hS => ?_)
      have hP : va_P G.1 vwCl (ce_X6 G.2.1 a0 (S0.1, S0.2.1, S0.2.2.1, S0.2.2.2.1, S0.2.2.2.2.1, S0.2.2.2.2.2.1, S0.2.2.2.2.2.2.1, S0.2.2.2.2.2.2.2.1, S0.2.2.2.2.2.2.2.2.1, S0.2.2.2.2.2.2.2.2.2.1, S0.2.2.2.2.2.2.2.2.2.2.1, S0.2.2.2.2.2.2.2.2.2.2.2.1, (upd S0.2.2.2.2.2.2.2.2.2.2.2.2.1 (S0.2.2.2.2.2.2.2.2.2.2.2.2.2.toNatClampNeg) v1), S0.2.2.2.2.2.2.2.2.2.2.2.2.2 + 1)) H := hP
      have hD : va_D A (ce_X6 G.2.1 a0 (S0.1, S0.2.1, S0.2.2.1, S0.2.2.2.1, S0.2.2.2.2.1, S0.2.2.2.2.2.1, S0.2.2.2.2.2.2.1, S0.2.2.2.2.2.2.2.1, S0.2.2.2.2.2.2.2.2.1, S0.2.2.2.2.2.2.2.2.2.1, S0.2.2.2.2.2.2.2.2.2.2.1, S0.2.2.2.2.2.2.2.2.2.2.2.1, (upd S0.2.2.2.2.2.2.2.2.2.2.2.2.1 (S0.2.2.2.2.2.2.2.2.2.2.2.2.2.toNatClampNeg) v1), S0.2.2.2.2.2.2.2.2.2.2.2.2.2 + 1)) := hD
      refine lv_aload_n hx hb dX6_row_54 rfl (lv_at hl 0 rfl) ?_
      refine va_get (D := G.1) (ci := 6) (v := .int (S0.2.2.2.2.2.2.2.2.2.2.2.2.2 + 1)) (C := RX6) (T := TX6) (N := 14) hx hb hts hinX6 hown hK hP 0 rfl rfl 13 (by decide) lk1 (fun _ h9 => h9) rfl dX6_row_55 ?_
      exact fin _ _ _ _ _ _ hf hP hD hS dX6_row_58
    · replace hf := ob_neg c1 hf
      refine lv_aload_n hx hb dX6_row_28 rfl (lv_at hl 0 rfl) ?_
      refine lv_iload_n hx hb dX6_row_29 rfl (lv_at hl 2 rfl) ?_
      obtain ⟨r3, hr3, hf⟩ := ob_bind hf
      have hFc := va_free (wc := ce_X6 G.2.1 a0 S0) hD hS hA [0, 1, 2, 3, 4, 5, 6, 7, 8, 9] rfl
      refine zc_wr (cf := (fun u => ce_X6 G.2.1 a0 u)) (ws' := ce_X6 G.2.1 a0 r3.2) (va_runV (As := [.int v2]) (rest := []) ⟨hx, hb, hml, hown, hts⟩ (c_X6_refuse l G a0 H.size S0 v2 _ hr3) (cwV 1 hts gX6_row_X6_refuse rfl rfl rfl (by decide +kernel) ⟨Nat.le_of_ble_eq_true rfl, Nat.le_of_ble_eq_true rfl⟩) ⟨PcM.blind, va_recv hK hP (ci := 6) (q0 := 0) rfl rfl, PcM.ok hP hD hK hE hS hFc⟩ rfl rfl hl.1 rfl (lv_room (Nat.le_of_ble_eq_true rfl)) dX6_row_30 ⟨Nat.le_refl _, Nat.le_refl _⟩) hP hD hS hA [0, 1, 2, 3, 4, 5, 6, 7, 8, 9] [] [0, 1, 2, 3, 4, 5, 6, 7, 8, 9] rfl rfl (by decide) (by decide) (by decide) rfl (fun H locs hP hD hS => ?_)
      exact fin _ _ _ _ _ _ hf hP hD hS dX6_row_33
  have go : ∀ (H : Heap) (locs : List Loc), va_P G.1 vwCl (ce_X6 G.2.1 a0 S0) H → va_D A (ce_X6 G.2.1 a0 S0) → va_S A s.heap H locs → ∀ (ls : Array Slot), lv_has ls 3 [(0, .ref a0.1), (1, .int p1)] → W p l e (headSpec wsX6_row rm_X6_row).room s m args below meth c H locs 0 0 Q (F0 m 0 ls []) := by
    intro H locs hP hD hS ls hl
    refine lv_iload_n hx hb dX6_row_0 rfl (lv_at hl 1 rfl) ?_
    refine lv_iconst (v := 0) hx hb dX6_row_1 (by decide) ?_
    refine lv_bipush (v := 9) hx hb dX6_row_2 (by decide) ?_
    obtain ⟨r4, hr4, hf⟩ := ob_bind hf
    have hPc : va_P G.1 vwCl (([] : va_W)) H := hP.sub [] rfl
    have hDc : va_D A (([] : va_W)) := hD.sub [] (by decide) rfl
    have hFc := va_free (wc := ([] : va_W)) hD hS hA [] rfl
    refine zc_ro (va_runS (As := [.int p1, .int 0, .int 9]) (rest := []) ⟨hx, hb, hml, hown, hts⟩ (c_X6_within l G H.size p1 0 9 _ hr4) (va_cwS 3 hts gX6_row_X6_within rfl rfl rfl (by decide +kernel) ⟨Nat.le_of_ble_eq_true rfl, Nat.le_of_ble_eq_true rfl⟩) ⟨PcM.blind, PcM.ok hPc hDc hK hE hS hFc⟩ rfl rfl hl.1 rfl (lv_room (Nat.le_of_ble_eq_true rfl)) dX6_row_4 ⟨Nat.le_refl _, Nat.le_refl _⟩) hP hD hS hA [] rfl (fun H locs hP hS => ?_)
    refine lv_istore_n (lv' := [(2, .int r4), (0, .ref a0.1), (1, .int p1)]) hx hb dX6_row_7 rfl hl (by decide) rfl (fun ls hl => ?_)
    refine lv_iload_n hx hb dX6_row_8 rfl (lv_at hl 0 rfl) ?_
    refine lv_if_ne (tgt := 24) hx hb dX6_row_9 (by decide) (fun c5 => ?_) (fun c5 => ?_)
    · replace hf := ob_neg c5 hf
      exact blk24 _ _ _ hf _ _ hP hD hS _ (lv_sub hl [1, 2, 0] rfl)
    · replace hf := ob_pos c5 hf
      refine lv_aload_n hx hb dX6_row_12 rfl (lv_at hl 1 rfl) ?_
      refine va_get (D := G.1) (ci := 6) (v := .int S0.2.2.2.2.2.2.2.2.2.2.2.2.2) (C := RX6) (T := TX6) (N := 14) hx hb hts hinX6 hown hK hP 0 rfl rfl 13 (by decide) lk1 (fun _ h9 => h9) rfl dX6_row_13 ?_
      refine lv_bipush (v := 14) hx hb dX6_row_16 (by decide) ?_
      refine lv_icmp_ne (tgt := 24) hx hb dX6_row_18 (by decide) (fun c6 => ?_) (fun c6 => ?_)
      · replace hf := ob_neg c6 hf
        exact blk24 _ _ _ hf _ _ hP hD hS _ (lv_sub hl [1, 2, 0] rfl)
      · replace hf := ob_pos c6 hf
        refine lv_bipush (v := (-6)) hx hb dX6_row_21 (by decide) ?_
        refine lv_istore_n (lv' := [(2, .int (-6)), (0, .ref a0.1), (1, .int p1)]) hx hb dX6_row_23 rfl hl (by decide) rfl (fun ls hl => ?_)
        exact blk24 _ _ _ hf _ _ hP hD hS _ (lv_sub hl [1, 2, 0] rfl)
  exact go _ _ hP hD hS _ hl
abbrev rm_X6_judge : Room := { frames := 4, cells := 0, slots := 0, locals := 92 }
set_option maxHeartbeats 4000000 in
set_option maxRecDepth 100000 in
theorem c_X6_judge (l : Launch) (G : zG) (a0 : AT_X6) (sz : Nat) (S0 : ST_X6) (p1 : Int32) (out : Int32 × ST_X6) (hf : f_X6_judge S0 p1 = some out) : Met l yX6_judge wsX6_judge rm_X6_judge (PcM G (ce_X6 G.2.1 a0 S0) [.ref a0.1, .int p1] sz) (QWr G (fun u => ce_X6 G.2.1 a0 u) out (va_A (ce_X6 G.2.1 a0 S0) sz)) 0 0 (va_A (ce_X6 G.2.1 a0 S0) sz) := by
  rw [f_X6_judge] at hf
  refine Met.ofW (cc := cX6_judge) (maxL := 4) (ret := (some .int)) (by decide) rfl ?_
  intro p e s m args below meth c s₁ B hml hv
  obtain ⟨hargs, hsz, hP, hK, hD0, hE⟩ := hv
  have hx := B.exec
  have hb := B.bytes
  have hr := B.returns
  have hts := atoms_spec (ws := wsX6_judge) B.pre
  have hown : s.vm.findClass RX6 = some m.cls := findClass_of_methodNamed B.named
  have hlocks := B.notSynchronized
  subst hsz
  have hD := hD0.self (sz := s.heap.size)
  generalize hAe : va_A (ce_X6 G.2.1 a0 S0) s.heap.size = A at hD hE ⊢
  have hA : ∀ q : Nat, s.heap.size ≤ q → A q := fun q h => by rw [← hAe]; exact Or.inr h
  have hS : va_S A s.heap s.heap [] := va_S.rf
  have hl := lv_entry ([.ref a0.1, .int p1]) (n := 4) (Nat.le_of_ble_eq_true rfl)
  have hent : entryFrame m args 4 = F0 m 0 ((lg_sl ([.ref a0.1, .int p1]) ++ List.replicate (4 - (lg_sl ([.ref a0.1, .int p1])).length) Slot.unset).toArray) [] := by rw [hargs, lg_entry_eq]
  rw [hent]
  clear hent
  generalize (lg_sl ([.ref a0.1, .int p1]) ++ List.replicate (4 - (lg_sl ([.ref a0.1, .int p1])).length) Slot.unset).toArray = ls at hl ⊢
  have hl : lv_has ls 4 [(0, .ref a0.1), (1, .int p1)] := hl
  have lk0 := hts (Cond.fieldLink RX6 34 "EnginesOnListModel" "row" "[I") (List.mem_of_getElem? (i := 2) rfl)
  have lk1 := hts (Cond.fieldLink RX6 13 "EnginesOnListModel" "s" "[I") (List.mem_of_getElem? (i := 3) rfl)
  have lk2 := hts (Cond.fieldLink RX6 170 "EnginesOnListModel" "rowed" "I") (List.mem_of_getElem? (i := 1) rfl)
  have hinX6 : ∀ w ∈ wsX60, w ∈ wsX6_judge := by decide +kernel
  have fin : ∀ (pc : Nat) (v : Int32) (u : ST_X6) (H : Heap) (locs : List Loc) (ls : Array Slot), some (v, u) = some out → va_P G.1 vwCl (ce_X6 G.2.1 a0 u) H → va_D A (ce_X6 G.2.1 a0 u) → va_S A s.heap H locs → decode cX6_judge pc = .ok (.ireturn, 1) → W p l e (headSpec wsX6_judge rm_X6_judge).room s m args below meth c H locs 0 0 (MQ below (QWr G (fun u => ce_X6 G.2.1 a0 u) out A) args s 0 0 A) (F0 m pc ls [.int v]) := fun pc v u H locs ls ho hP hD hS hd => W.iret (v := v) hx hb hr (fun t ht hW => ⟨⟨v, u, rfl, ob_pair ho, by first | (rw [ht]; exact hP) | (dsimp only; rw [ht]; exact hP), hD⟩, hS.F ht⟩) hS.2.2 hd
  generalize MQ below (QWr G (fun u => ce_X6 G.2.1 a0 u) out A) args s 0 0 A = Q at fin ⊢
  have blk26 : ∀ (fu26 : Nat), ∀ (S0 : ST_X6) (v1 : Int32) (v2 : Int32) (v3 : Int32), f_X6_judge_b26 fu26 S0 v1 v2 v3 = some out → ∀ (H : Heap) (locs : List Loc), va_P G.1 vwCl (ce_X6 G.2.1 a0 S0) H → va_D A (ce_X6 G.2.1 a0 S0) → va_S A s.heap H locs → ∀ (ls : Array Slot), lv_has ls 4 [(0, .ref a0.1), (1, .int v1), (2, .int v2), (3, .int v3)] → W p l e (headSpec wsX6_judge rm_X6_judge).room s m args below meth c H locs 0 0 Q (F0 m 26 ls []) := by
    intro fu26
    induction fu26 with
    | zero => intro S0 v1 v2 v3 hf; exact ob_none hf
    | succ fu26 ih26 =>
      intro S0 v1 v2 v3 hf H locs hP hD hS ls hl
      rw [f_X6_judge_b26] at hf
      refine lv_iload_n hx hb dX6_judge_26 rfl (lv_at hl 3 rfl) ?_
      refine lv_iload_n hx hb dX6_judge_27 rfl (lv_at hl 2 rfl) ?_
      refine lv_icmp_ge (tgt := 61) hx hb dX6_judge_28 (by decide) (fun c1 => ?_) (fun c1 => ?_)
      · replace hf := ob_pos c1 hf
        refine lv_bipush (v := (-9)) hx hb dX6_judge_61 (by decide) ?_
        exact fin _ _ _ _ _ _ hf hP hD hS dX6_judge_63
      · replace hf := ob_neg c1 hf
        refine lv_aload_n hx hb dX6_judge_31 rfl (lv_at hl 0 rfl) ?_
        refine va_get (D := G.1) (ci := 6) (v := .ref a0.2.2.2.2.2.2.2.2.2) (C := RX6) (T := TX6) (N := 14) hx hb hts hinX6 hown hK hP 0 rfl rfl 12 (by decide) lk0 (fun _ h9 => h9) rfl dX6_judge_32 ?_
        refine lv_iload_n hx hb dX6_judge_35 rfl (lv_at hl 3 rfl) ?_
        obtain ⟨hg2, hf⟩ := ob_guard hf
        refine va_iald hx hb hK hP 9 0 rfl rfl hg2 dX6_judge_36 ?_
        refine lv_aload_n hx hb dX6_judge_37 rfl (lv_at hl 0 rfl) ?_
        refine lv_iload_n hx hb dX6_judge_38 rfl (lv_at hl 1 rfl) ?_
        refine lv_aload_n hx hb dX6_judge_39 rfl (lv_at hl 0 rfl) ?_
        refine va_get (D := G.1) (ci := 6) (v := .ref a0.2.2.1) (C := RX6) (T := TX6) (N := 14) hx hb hts hinX6 hown hK hP 0 rfl rfl 1 (by decide) lk1 (fun _ h9 => h9) rfl dX6_judge_40 ?_
        refine lv_iconst (v := 1) hx hb dX6_judge_43 (by decide) ?_
        refine va_iald hx hb hK hP 2 0 rfl rfl (by decide : inB 1 130) dX6_judge_44 ?_
        refine zl_top (y := S0.2.1 1) rfl ?_
        refine lv_iload_n hx hb dX6_judge_45 rfl (lv_at hl 3 rfl) ?_
        refine lv_iadd hx hb dX6_judge_46 ?_
        obtain ⟨r3, hr3, hf⟩ := ob_bind hf
        have hFc := va_free (wc := ce_X6 G.2.1 a0 S0) hD hS hA [0, 1, 2, 3, 4, 5, 6, 7, 8, 9] rfl
        refine zc_ro (va_runV (As := [.int v1, .int ((S0.2.1 1) + v3)]) (rest := [.int (S0.2.2.2.2.2.2.2.2.2.2.2.2.1 v3.toNatClampNeg)]) ⟨hx, hb, hml, hown, hts⟩ (c_X6_isAt l G a0 H.size S0 v1 ((S0.2.1 1) + v3) _ hr3) (cwV 2 hts gX6_judge_X6_isAt rfl rfl rfl (by decide +kernel) ⟨Nat.le_of_ble_eq_true rfl, Nat.le_of_ble_eq_true rfl⟩) ⟨PcM.blind, va_recv hK hP (ci := 6) (q0 := 0) rfl rfl, PcM.ok hP hD hK hE hS hFc⟩ rfl rfl hl.1 rfl (lv_room (Nat.le_of_ble_eq_true rfl)) dX6_judge_47 ⟨Nat.le_refl _, Nat.le_refl _⟩) hP hD hS hA [0, 1, 2, 3, 4, 5, 6, 7, 8, 9] rfl (fun H locs hP hS => ?_)
        refine lv_icmp_eq (tgt := 55) hx hb dX6_judge_50 (by decide) (fun c4 => ?_) (fun c4 => ?_)
        · replace hf := ob_pos c4 hf
          refine lv_iinc (v := v3 + 1) (lv' := [(3, .int (v3 + 1)), (0, .ref a0.1), (1, .int v1), (2, .int v2)]) hx hb dX6_judge_55 hl (k := 3) rfl rfl (by decide) rfl (fun ls hl => ?_)
          refine lv_goto (tgt := 26) hx hb dX6_judge_58 (by decide) ?_
          exact ih26 _ _ _ _ hf _ _ hP hD hS _ (lv_sub hl [1, 2, 3, 0] rfl)
        · replace hf := ob_neg c4 hf
          refine lv_iload_n hx hb dX6_judge_53 rfl (lv_at hl 3 rfl) ?_
          exact fin _ _ _ _ _ _ hf hP hD hS dX6_judge_54
  have go : ∀ (H : Heap) (locs : List Loc), va_P G.1 vwCl (ce_X6 G.2.1 a0 S0) H → va_D A (ce_X6 G.2.1 a0 S0) → va_S A s.heap H locs → ∀ (ls : Array Slot), lv_has ls 4 [(0, .ref a0.1), (1, .int p1)] → W p l e (headSpec wsX6_judge rm_X6_judge).room s m args below meth c H locs 0 0 Q (F0 m 0 ls []) := by
    intro H locs hP hD hS ls hl
    refine lv_aload_n hx hb dX6_judge_0 rfl (lv_at hl 0 rfl) ?_
    refine lv_iload_n hx hb dX6_judge_1 rfl (lv_at hl 1 rfl) ?_
    obtain ⟨r5, hr5, hf⟩ := ob_bind hf
    have hFc := va_free (wc := ce_X6 G.2.1 a0 S0) hD hS hA [0, 1, 2, 3, 4, 5, 6, 7, 8, 9] rfl
    refine zc_ro (va_runV (As := [.int p1]) (rest := []) ⟨hx, hb, hml, hown, hts⟩ (c_X6_isEngine l G a0 H.size S0 p1 _ hr5) (cwV 1 hts gX6_judge_X6_isEngine rfl rfl rfl (by decide +kernel) ⟨Nat.le_of_ble_eq_true rfl, Nat.le_of_ble_eq_true rfl⟩) ⟨PcM.blind, va_recv hK hP (ci := 6) (q0 := 0) rfl rfl, PcM.ok hP hD hK hE hS hFc⟩ rfl rfl hl.1 rfl (lv_room (Nat.le_of_ble_eq_true rfl)) dX6_judge_2 ⟨Nat.le_refl _, Nat.le_refl _⟩) hP hD hS hA [0, 1, 2, 3, 4, 5, 6, 7, 8, 9] rfl (fun H locs hP hS => ?_)
    refine lv_if_ne (tgt := 14) hx hb dX6_judge_5 (by decide) (fun c6 => ?_) (fun c6 => ?_)
    · replace hf := ob_neg c6 hf
      refine lv_aload_n hx hb dX6_judge_14 rfl (lv_at hl 0 rfl) ?_
      refine va_get (D := G.1) (ci := 6) (v := .int S0.2.2.2.2.2.2.2.2.2.2.2.2.2) (C := RX6) (T := TX6) (N := 14) hx hb hts hinX6 hown hK hP 0 rfl rfl 13 (by decide) lk2 (fun _ h9 => h9) rfl dX6_judge_15 ?_
      refine lv_istore_n (lv' := [(2, .int S0.2.2.2.2.2.2.2.2.2.2.2.2.2), (0, .ref a0.1), (1, .int p1)]) hx hb dX6_judge_18 rfl hl (by decide) rfl (fun ls hl => ?_)
      refine lv_aload_n hx hb dX6_judge_19 rfl (lv_at hl 1 rfl) ?_
      refine lv_iconst (v := 0) hx hb dX6_judge_20 (by decide) ?_
      refine va_put (D := G.1) (ci := 6) (v := .int 0) (ty := .int) (C := RX6) (T := TX6) (N := 14) hx hb hts hinX6 tyX6 tyX6_ok nmX6 hown hK hP hD hS 0 rfl rfl 13 (by decide) lk2 (fun _ h9 => h9) rfl (by decide +kernel) rfl rfl (Nat.le_of_ble_eq_true rfl) dX6_judge_21 (fun H locs hP hD hS => ?_)
      have hP : va_P G.1 vwCl (ce_X6 G.2.1 a0 (S0.1, S0.2.1, S0.2.2.1, S0.2.2.2.1, S0.2.2.2.2.1, S0.2.2.2.2.2.1, S0.2.2.2.2.2.2.1, S0.2.2.2.2.2.2.2.1, S0.2.2.2.2.2.2.2.2.1, S0.2.2.2.2.2.2.2.2.2.1, S0.2.2.2.2.2.2.2.2.2.2.1, S0.2.2.2.2.2.2.2.2.2.2.2.1, S0.2.2.2.2.2.2.2.2.2.2.2.2.1, 0)) H := hP
      have hD : va_D A (ce_X6 G.2.1 a0 (S0.1, S0.2.1, S0.2.2.1, S0.2.2.2.1, S0.2.2.2.2.1, S0.2.2.2.2.2.1, S0.2.2.2.2.2.2.1, S0.2.2.2.2.2.2.2.1, S0.2.2.2.2.2.2.2.2.1, S0.2.2.2.2.2.2.2.2.2.1, S0.2.2.2.2.2.2.2.2.2.2.1, S0.2.2.2.2.2.2.2.2.2.2.2.1, S0.2.2.2.2.2.2.2.2.2.2.2.2.1, 0)) := hD
      refine lv_iconst (v := 0) hx hb dX6_judge_24 (by decide) ?_
      refine lv_istore_n (lv' := [(3, .int 0), (2, .int S0.2.2.2.2.2.2.2.2.2.2.2.2.2), (0, .ref a0.1), (1, .int p1)]) hx hb dX6_judge_25 rfl hl (by decide) rfl (fun ls hl => ?_)
      exact blk26 4096 _ _ _ _ hf _ _ hP hD hS _ (lv_sub hl [2, 3, 1, 0] rfl)
    · replace hf := ob_pos c6 hf
      refine lv_aload_n hx hb dX6_judge_8 rfl (lv_at hl 0 rfl) ?_
      refine lv_iconst (v := (-1)) hx hb dX6_judge_9 (by decide) ?_
      obtain ⟨r7, hr7, hf⟩ := ob_bind hf
      have hFc := va_free (wc := ce_X6 G.2.1 a0 S0) hD hS hA [0, 1, 2, 3, 4, 5, 6, 7, 8, 9] rfl
      refine zc_wr (cf := (fun u => ce_X6 G.2.1 a0 u)) (ws' := ce_X6 G.2.1 a0 r7.2) (va_runV (As := [.int (-1)]) (rest := []) ⟨hx, hb, hml, hown, hts⟩ (c_X6_refuse l G a0 H.size S0 (-1) _ hr7) (cwV 1 hts gX6_judge_X6_refuse rfl rfl rfl (by decide +kernel) ⟨Nat.le_of_ble_eq_true rfl, Nat.le_of_ble_eq_true rfl⟩) ⟨PcM.blind, va_recv hK hP (ci := 6) (q0 := 0) rfl rfl, PcM.ok hP hD hK hE hS hFc⟩ rfl rfl hl.1 rfl (lv_room (Nat.le_of_ble_eq_true rfl)) dX6_judge_10 ⟨Nat.le_refl _, Nat.le_refl _⟩) hP hD hS hA [0, 1, 2, 3, 4, 5, 6, 7, 8, 9] [] [0, 1, 2, 3, 4, 5, 6, 7, 8, 9] rfl rfl (by decide) (by decide) (by decide) rfl (fun H locs hP hD hS => ?_)
      exact fin _ _ _ _ _ _ hf hP hD hS dX6_judge_13
  exact go _ _ hP hD hS _ hl
abbrev rm_X6_image : Room := { frames := 2, cells := 0, slots := 0, locals := 46 }
set_option maxHeartbeats 4000000 in
set_option maxRecDepth 100000 in
theorem c_X6_image (l : Launch) (G : zG) (a0 : AT_X6) (sz : Nat) (S0 : ST_X6) (out : Int32 × ST_X6) (hf : f_X6_image S0 = some out) : Met l yX6_image wsX6_image rm_X6_image (PcM G (ce_X6 G.2.1 a0 S0) [.ref a0.1] sz) (QWr G (fun u => ce_X6 G.2.1 a0 u) out (va_A (ce_X6 G.2.1 a0 S0) sz)) 0 0 (va_A (ce_X6 G.2.1 a0 S0) sz) := by
  rw [f_X6_image] at hf
  refine Met.ofW (cc := cX6_image) (maxL := 1) (ret := (some .int)) (by decide) rfl ?_
  intro p e s m args below meth c s₁ B hml hv
  obtain ⟨hargs, hsz, hP, hK, hD0, hE⟩ := hv
  have hx := B.exec
  have hb := B.bytes
  have hr := B.returns
  have hts := atoms_spec (ws := wsX6_image) B.pre
  have hown : s.vm.findClass RX6 = some m.cls := findClass_of_methodNamed B.named
  have hlocks := B.notSynchronized
  subst hsz
  have hD := hD0.self (sz := s.heap.size)
  generalize hAe : va_A (ce_X6 G.2.1 a0 S0) s.heap.size = A at hD hE ⊢
  have hA : ∀ q : Nat, s.heap.size ≤ q → A q := fun q h => by rw [← hAe]; exact Or.inr h
  have hS : va_S A s.heap s.heap [] := va_S.rf
  have hl := lv_entry ([.ref a0.1]) (n := 1) (Nat.le_of_ble_eq_true rfl)
  have hent : entryFrame m args 1 = F0 m 0 ((lg_sl ([.ref a0.1]) ++ List.replicate (1 - (lg_sl ([.ref a0.1])).length) Slot.unset).toArray) [] := by rw [hargs, lg_entry_eq]
  rw [hent]
  clear hent
  generalize (lg_sl ([.ref a0.1]) ++ List.replicate (1 - (lg_sl ([.ref a0.1])).length) Slot.unset).toArray = ls at hl ⊢
  have hl : lv_has ls 1 [(0, .ref a0.1)] := hl
  have lk0 := hts (Cond.fieldLink RX6 13 "EnginesOnListModel" "s" "[I") (List.mem_of_getElem? (i := 1) rfl)
  have lk1 := hts (Cond.fieldLink RX6 16 "EnginesOnListModel" "image" "[I") (List.mem_of_getElem? (i := 2) rfl)
  have lk2 := hts (Cond.fieldLink RX6 173 "EnginesOnListModel" "isImage" "Z") (List.mem_of_getElem? (i := 3) rfl)
  have hinX6 : ∀ w ∈ wsX60, w ∈ wsX6_image := by decide +kernel
  have fin : ∀ (pc : Nat) (v : Int32) (u : ST_X6) (H : Heap) (locs : List Loc) (ls : Array Slot), some (v, u) = some out → va_P G.1 vwCl (ce_X6 G.2.1 a0 u) H → va_D A (ce_X6 G.2.1 a0 u) → va_S A s.heap H locs → decode cX6_image pc = .ok (.ireturn, 1) → W p l e (headSpec wsX6_image rm_X6_image).room s m args below meth c H locs 0 0 (MQ below (QWr G (fun u => ce_X6 G.2.1 a0 u) out A) args s 0 0 A) (F0 m pc ls [.int v]) := fun pc v u H locs ls ho hP hD hS hd => W.iret (v := v) hx hb hr (fun t ht hW => ⟨⟨v, u, rfl, ob_pair ho, by first | (rw [ht]; exact hP) | (dsimp only; rw [ht]; exact hP), hD⟩, hS.F ht⟩) hS.2.2 hd
  generalize MQ below (QWr G (fun u => ce_X6 G.2.1 a0 u) out A) args s 0 0 A = Q at fin ⊢
  have go : ∀ (H : Heap) (locs : List Loc), va_P G.1 vwCl (ce_X6 G.2.1 a0 S0) H → va_D A (ce_X6 G.2.1 a0 S0) → va_S A s.heap H locs → ∀ (ls : Array Slot), lv_has ls 1 [(0, .ref a0.1)] → W p l e (headSpec wsX6_image rm_X6_image).room s m args below meth c H locs 0 0 Q (F0 m 0 ls []) := by
    intro H locs hP hD hS ls hl
    refine lv_aload_n hx hb dX6_image_0 rfl (lv_at hl 0 rfl) ?_
    refine va_get (D := G.1) (ci := 6) (v := .ref a0.2.2.1) (C := RX6) (T := TX6) (N := 14) hx hb hts hinX6 hown hK hP 0 rfl rfl 1 (by decide) lk0 (fun _ h9 => h9) rfl dX6_image_1 ?_
    refine lv_aload_n hx hb dX6_image_4 rfl (lv_at hl 0 rfl) ?_
    refine va_get (D := G.1) (ci := 6) (v := .ref a0.2.2.2.1) (C := RX6) (T := TX6) (N := 14) hx hb hts hinX6 hown hK hP 0 rfl rfl 2 (by decide) lk1 (fun _ h9 => h9) rfl dX6_image_5 ?_
    obtain ⟨r1, hr1, hf⟩ := ob_bind hf
    have hPc : va_P G.1 vwCl (ce_A130 G.2.1 a0.2.2.1 S0.2.1 ++ ce_A130 G.2.1 a0.2.2.2.1 S0.2.2.1) H := hP.sub [2, 3] rfl
    have hDc : va_D A (ce_A130 G.2.1 a0.2.2.1 S0.2.1 ++ ce_A130 G.2.1 a0.2.2.2.1 S0.2.2.1) := hD.sub [2, 3] (by decide) rfl
    have hFc := va_free (wc := ce_A130 G.2.1 a0.2.2.1 S0.2.1 ++ ce_A130 G.2.1 a0.2.2.2.1 S0.2.2.1) hD hS hA [2, 3] rfl
    refine zc_wv (cf := (fun u => ce_A130 G.2.1 a0.2.2.1 S0.2.1 ++ ce_A130 G.2.1 a0.2.2.2.1 u)) (ws' := ce_X6 G.2.1 a0 (S0.1, S0.2.1, r1, S0.2.2.2.1, S0.2.2.2.2.1, S0.2.2.2.2.2.1, S0.2.2.2.2.2.2.1, S0.2.2.2.2.2.2.2.1, S0.2.2.2.2.2.2.2.2.1, S0.2.2.2.2.2.2.2.2.2.1, S0.2.2.2.2.2.2.2.2.2.2.1, S0.2.2.2.2.2.2.2.2.2.2.2.1, S0.2.2.2.2.2.2.2.2.2.2.2.2.1, S0.2.2.2.2.2.2.2.2.2.2.2.2.2)) (va_runS (As := [.ref a0.2.2.1, .ref a0.2.2.2.1]) (rest := []) ⟨hx, hb, hml, hown, hts⟩ (c_X6_copies l G a0.2.2.1 a0.2.2.2.1 H.size S0.2.1 S0.2.2.1 _ hr1) (va_cwS 2 hts gX6_image_X6_copies rfl rfl rfl (by decide +kernel) ⟨Nat.le_of_ble_eq_true rfl, Nat.le_of_ble_eq_true rfl⟩) ⟨PcM.blind, PcM.ok hPc hDc hK hE hS hFc⟩ rfl rfl hl.1 rfl (lv_room (Nat.le_of_ble_eq_true rfl)) dX6_image_8 ⟨Nat.le_refl _, Nat.le_refl _⟩) hP hD hS hA [2, 3] [0, 1, 4, 5, 6, 7, 8, 9] [0, 1, 8, 9, 2, 3, 4, 5, 6, 7] rfl rfl (by decide) (by decide) (by decide) rfl (fun H locs hP hD hS => ?_)
    refine lv_aload_n hx hb dX6_image_11 rfl (lv_at hl 0 rfl) ?_
    refine lv_iconst (v := 1) hx hb dX6_image_12 (by decide) ?_
    refine va_put (D := G.1) (ci := 6) (v := .int 1) (ty := .boolean) (C := RX6) (T := TX6) (N := 14) hx hb hts hinX6 tyX6 tyX6_ok nmX6 hown hK hP hD hS 0 rfl rfl 4 (by decide) lk2 (fun _ h9 => h9) rfl (by decide +kernel) rfl rfl (Nat.le_of_ble_eq_true rfl) dX6_image_13 (fun H locs hP hD hS => ?_)
    have hP : va_P G.1 vwCl (ce_X6 G.2.1 a0 (S0.1, S0.2.1, r1, S0.2.2.2.1, 1, S0.2.2.2.2.2.1, S0.2.2.2.2.2.2.1, S0.2.2.2.2.2.2.2.1, S0.2.2.2.2.2.2.2.2.1, S0.2.2.2.2.2.2.2.2.2.1, S0.2.2.2.2.2.2.2.2.2.2.1, S0.2.2.2.2.2.2.2.2.2.2.2.1, S0.2.2.2.2.2.2.2.2.2.2.2.2.1, S0.2.2.2.2.2.2.2.2.2.2.2.2.2)) H := hP
    have hD : va_D A (ce_X6 G.2.1 a0 (S0.1, S0.2.1, r1, S0.2.2.2.1, 1, S0.2.2.2.2.2.1, S0.2.2.2.2.2.2.1, S0.2.2.2.2.2.2.2.1, S0.2.2.2.2.2.2.2.2.1, S0.2.2.2.2.2.2.2.2.2.1, S0.2.2.2.2.2.2.2.2.2.2.1, S0.2.2.2.2.2.2.2.2.2.2.2.1, S0.2.2.2.2.2.2.2.2.2.2.2.2.1, S0.2.2.2.2.2.2.2.2.2.2.2.2.2)) := hD
    refine lv_aload_n hx hb dX6_image_16 rfl (lv_at hl 0 rfl) ?_
    refine va_get (D := G.1) (ci := 6) (v := .ref a0.2.2.1) (C := RX6) (T := TX6) (N := 14) hx hb hts hinX6 hown hK hP 0 rfl rfl 1 (by decide) lk0 (fun _ h9 => h9) rfl dX6_image_17 ?_
    refine lv_iconst (v := 1) hx hb dX6_image_20 (by decide) ?_
    refine va_iald hx hb hK hP 2 0 rfl rfl (by decide : inB 1 130) dX6_image_21 ?_
    refine zl_top (y := S0.2.1 1) rfl ?_
    exact fin _ _ _ _ _ _ hf hP hD hS dX6_image_22
  exact go _ _ hP hD hS _ hl
abbrev rm_X6_on : Room := { frames := 2, cells := 0, slots := 0, locals := 46 }
set_option maxHeartbeats 4000000 in
set_option maxRecDepth 100000 in
theorem c_X6_on (l : Launch) (G : zG) (a0 : AT_X6) (sz : Nat) (S0 : ST_X6) (out : Int32 × ST_X6) (hf : f_X6_on S0 = some out) : Met l yX6_on wsX6_on rm_X6_on (PcM G (ce_X6 G.2.1 a0 S0) [.ref a0.1] sz) (QWr G (fun u => ce_X6 G.2.1 a0 u) out (va_A (ce_X6 G.2.1 a0 S0) sz)) 0 0 (va_A (ce_X6 G.2.1 a0 S0) sz) := by
  rw [f_X6_on] at hf
  refine Met.ofW (cc := cX6_on) (maxL := 1) (ret := (some .int)) (by decide) rfl ?_
  intro p e s m args below meth c s₁ B hml hv
  obtain ⟨hargs, hsz, hP, hK, hD0, hE⟩ := hv
  have hx := B.exec
  have hb := B.bytes
  have hr := B.returns
  have hts := atoms_spec (ws := wsX6_on) B.pre
  have hown : s.vm.findClass RX6 = some m.cls := findClass_of_methodNamed B.named
  have hlocks := B.notSynchronized
  subst hsz
  have hD := hD0.self (sz := s.heap.size)
  generalize hAe : va_A (ce_X6 G.2.1 a0 S0) s.heap.size = A at hD hE ⊢
  have hA : ∀ q : Nat, s.heap.size ≤ q → A q := fun q h => by rw [← hAe]; exact Or.inr h
  have hS : va_S A s.heap s.heap [] := va_S.rf
  have hl := lv_entry ([.ref a0.1]) (n := 1) (Nat.le_of_ble_eq_true rfl)
  have hent : entryFrame m args 1 = F0 m 0 ((lg_sl ([.ref a0.1]) ++ List.replicate (1 - (lg_sl ([.ref a0.1])).length) Slot.unset).toArray) [] := by rw [hargs, lg_entry_eq]
  rw [hent]
  clear hent
  generalize (lg_sl ([.ref a0.1]) ++ List.replicate (1 - (lg_sl ([.ref a0.1])).length) Slot.unset).toArray = ls at hl ⊢
  have hl : lv_has ls 1 [(0, .ref a0.1)] := hl
  have lk0 := hts (Cond.fieldLink RX6 173 "EnginesOnListModel" "isImage" "Z") (List.mem_of_getElem? (i := 1) rfl)
  have lk1 := hts (Cond.fieldLink RX6 16 "EnginesOnListModel" "image" "[I") (List.mem_of_getElem? (i := 2) rfl)
  have lk2 := hts (Cond.fieldLink RX6 13 "EnginesOnListModel" "s" "[I") (List.mem_of_getElem? (i := 3) rfl)
  have hinX6 : ∀ w ∈ wsX60, w ∈ wsX6_on := by decide +kernel
  have fin : ∀ (pc : Nat) (v : Int32) (u : ST_X6) (H : Heap) (locs : List Loc) (ls : Array Slot), some (v, u) = some out → va_P G.1 vwCl (ce_X6 G.2.1 a0 u) H → va_D A (ce_X6 G.2.1 a0 u) → va_S A s.heap H locs → decode cX6_on pc = .ok (.ireturn, 1) → W p l e (headSpec wsX6_on rm_X6_on).room s m args below meth c H locs 0 0 (MQ below (QWr G (fun u => ce_X6 G.2.1 a0 u) out A) args s 0 0 A) (F0 m pc ls [.int v]) := fun pc v u H locs ls ho hP hD hS hd => W.iret (v := v) hx hb hr (fun t ht hW => ⟨⟨v, u, rfl, ob_pair ho, by first | (rw [ht]; exact hP) | (dsimp only; rw [ht]; exact hP), hD⟩, hS.F ht⟩) hS.2.2 hd
  generalize MQ below (QWr G (fun u => ce_X6 G.2.1 a0 u) out A) args s 0 0 A = Q at fin ⊢
  have go : ∀ (H : Heap) (locs : List Loc), va_P G.1 vwCl (ce_X6 G.2.1 a0 S0) H → va_D A (ce_X6 G.2.1 a0 S0) → va_S A s.heap H locs → ∀ (ls : Array Slot), lv_has ls 1 [(0, .ref a0.1)] → W p l e (headSpec wsX6_on rm_X6_on).room s m args below meth c H locs 0 0 Q (F0 m 0 ls []) := by
    intro H locs hP hD hS ls hl
    refine lv_aload_n hx hb dX6_on_0 rfl (lv_at hl 0 rfl) ?_
    refine va_get (D := G.1) (ci := 6) (v := .int S0.2.2.2.2.1) (C := RX6) (T := TX6) (N := 14) hx hb hts hinX6 hown hK hP 0 rfl rfl 4 (by decide) lk0 (fun _ h9 => h9) rfl dX6_on_1 ?_
    refine lv_if_ne (tgt := 14) hx hb dX6_on_4 (by decide) (fun c1 => ?_) (fun c1 => ?_)
    · replace hf := ob_neg c1 hf
      refine lv_aload_n hx hb dX6_on_14 rfl (lv_at hl 0 rfl) ?_
      refine va_get (D := G.1) (ci := 6) (v := .ref a0.2.2.2.1) (C := RX6) (T := TX6) (N := 14) hx hb hts hinX6 hown hK hP 0 rfl rfl 2 (by decide) lk1 (fun _ h9 => h9) rfl dX6_on_15 ?_
      refine lv_aload_n hx hb dX6_on_18 rfl (lv_at hl 0 rfl) ?_
      refine va_get (D := G.1) (ci := 6) (v := .ref a0.2.2.1) (C := RX6) (T := TX6) (N := 14) hx hb hts hinX6 hown hK hP 0 rfl rfl 1 (by decide) lk2 (fun _ h9 => h9) rfl dX6_on_19 ?_
      obtain ⟨r2, hr2, hf⟩ := ob_bind hf
      have hPc : va_P G.1 vwCl (ce_A130 G.2.1 a0.2.2.2.1 S0.2.2.1 ++ ce_A130 G.2.1 a0.2.2.1 S0.2.1) H := hP.sub [3, 2] rfl
      have hDc : va_D A (ce_A130 G.2.1 a0.2.2.2.1 S0.2.2.1 ++ ce_A130 G.2.1 a0.2.2.1 S0.2.1) := hD.sub [3, 2] (by decide) rfl
      have hFc := va_free (wc := ce_A130 G.2.1 a0.2.2.2.1 S0.2.2.1 ++ ce_A130 G.2.1 a0.2.2.1 S0.2.1) hD hS hA [3, 2] rfl
      refine zc_wv (cf := (fun u => ce_A130 G.2.1 a0.2.2.2.1 S0.2.2.1 ++ ce_A130 G.2.1 a0.2.2.1 u)) (ws' := ce_X6 G.2.1 a0 (S0.1, r2, S0.2.2.1, S0.2.2.2.1, S0.2.2.2.2.1, S0.2.2.2.2.2.1, S0.2.2.2.2.2.2.1, S0.2.2.2.2.2.2.2.1, S0.2.2.2.2.2.2.2.2.1, S0.2.2.2.2.2.2.2.2.2.1, S0.2.2.2.2.2.2.2.2.2.2.1, S0.2.2.2.2.2.2.2.2.2.2.2.1, S0.2.2.2.2.2.2.2.2.2.2.2.2.1, S0.2.2.2.2.2.2.2.2.2.2.2.2.2)) (va_runS (As := [.ref a0.2.2.2.1, .ref a0.2.2.1]) (rest := []) ⟨hx, hb, hml, hown, hts⟩ (c_X6_copies l G a0.2.2.2.1 a0.2.2.1 H.size S0.2.2.1 S0.2.1 _ hr2) (va_cwS 2 hts gX6_on_X6_copies rfl rfl rfl (by decide +kernel) ⟨Nat.le_of_ble_eq_true rfl, Nat.le_of_ble_eq_true rfl⟩) ⟨PcM.blind, PcM.ok hPc hDc hK hE hS hFc⟩ rfl rfl hl.1 rfl (lv_room (Nat.le_of_ble_eq_true rfl)) dX6_on_22 ⟨Nat.le_refl _, Nat.le_refl _⟩) hP hD hS hA [3, 2] [0, 1, 4, 5, 6, 7, 8, 9] [0, 1, 9, 8, 2, 3, 4, 5, 6, 7] rfl rfl (by decide) (by decide) (by decide) rfl (fun H locs hP hD hS => ?_)
      refine lv_aload_n hx hb dX6_on_25 rfl (lv_at hl 0 rfl) ?_
      refine va_get (D := G.1) (ci := 6) (v := .ref a0.2.2.1) (C := RX6) (T := TX6) (N := 14) hx hb hts hinX6 hown hK hP 0 rfl rfl 1 (by decide) lk2 (fun _ h9 => h9) rfl dX6_on_26 ?_
      refine lv_iconst (v := 1) hx hb dX6_on_29 (by decide) ?_
      refine va_iald hx hb hK hP 2 0 rfl rfl (by decide : inB 1 130) dX6_on_30 ?_
      refine zl_top (y := r2 1) rfl ?_
      exact fin _ _ _ _ _ _ hf hP hD hS dX6_on_31
    · replace hf := ob_pos c1 hf
      refine lv_aload_n hx hb dX6_on_7 rfl (lv_at hl 0 rfl) ?_
      refine lv_bipush (v := (-3)) hx hb dX6_on_8 (by decide) ?_
      obtain ⟨r3, hr3, hf⟩ := ob_bind hf
      have hFc := va_free (wc := ce_X6 G.2.1 a0 S0) hD hS hA [0, 1, 2, 3, 4, 5, 6, 7, 8, 9] rfl
      refine zc_wr (cf := (fun u => ce_X6 G.2.1 a0 u)) (ws' := ce_X6 G.2.1 a0 r3.2) (va_runV (As := [.int (-3)]) (rest := []) ⟨hx, hb, hml, hown, hts⟩ (c_X6_refuse l G a0 H.size S0 (-3) _ hr3) (cwV 1 hts gX6_on_X6_refuse rfl rfl rfl (by decide +kernel) ⟨Nat.le_of_ble_eq_true rfl, Nat.le_of_ble_eq_true rfl⟩) ⟨PcM.blind, va_recv hK hP (ci := 6) (q0 := 0) rfl rfl, PcM.ok hP hD hK hE hS hFc⟩ rfl rfl hl.1 rfl (lv_room (Nat.le_of_ble_eq_true rfl)) dX6_on_10 ⟨Nat.le_refl _, Nat.le_refl _⟩) hP hD hS hA [0, 1, 2, 3, 4, 5, 6, 7, 8, 9] [] [0, 1, 2, 3, 4, 5, 6, 7, 8, 9] rfl rfl (by decide) (by decide) (by decide) rfl (fun H locs hP hD hS => ?_)
      exact fin _ _ _ _ _ _ hf hP hD hS dX6_on_13
  exact go _ _ hP hD hS _ hl
abbrev rm_X6_count : Room := { frames := 7, cells := 0, slots := 0, locals := 154 }
set_option maxHeartbeats 4000000 in
set_option maxRecDepth 100000 in
theorem c_X6_count (l : Launch) (G : zG) (a0 : AT_X6) (sz : Nat) (S0 : ST_X6) (p1 : Int32) (out : Int32) (hf : f_X6_count S0 p1 = some out) : Met l yX6_count wsX6_count rm_X6_count (PcM G (ce_X6 G.2.1 a0 S0) [.ref a0.1, .int p1] sz) (QRo G (ce_X6 G.2.1 a0 S0) out (va_A (ce_X6 G.2.1 a0 S0) sz)) 0 0 (va_A (ce_X6 G.2.1 a0 S0) sz) := by
  rw [f_X6_count] at hf
  refine Met.ofW (cc := cX6_count) (maxL := 2) (ret := (some .int)) (by decide) rfl ?_
  intro p e s m args below meth c s₁ B hml hv
  obtain ⟨hargs, hsz, hP, hK, hD0, hE⟩ := hv
  have hx := B.exec
  have hb := B.bytes
  have hr := B.returns
  have hts := atoms_spec (ws := wsX6_count) B.pre
  have hown : s.vm.findClass RX6 = some m.cls := findClass_of_methodNamed B.named
  have hlocks := B.notSynchronized
  subst hsz
  have hD := hD0.self (sz := s.heap.size)
  generalize hAe : va_A (ce_X6 G.2.1 a0 S0) s.heap.size = A at hD hE ⊢
  have hA : ∀ q : Nat, s.heap.size ≤ q → A q := fun q h => by rw [← hAe]; exact Or.inr h
  have hS : va_S A s.heap s.heap [] := va_S.rf
  have hl := lv_entry ([.ref a0.1, .int p1]) (n := 2) (Nat.le_of_ble_eq_true rfl)
  have hent : entryFrame m args 2 = F0 m 0 ((lg_sl ([.ref a0.1, .int p1]) ++ List.replicate (2 - (lg_sl ([.ref a0.1, .int p1])).length) Slot.unset).toArray) [] := by rw [hargs, lg_entry_eq]
  rw [hent]
  clear hent
  generalize (lg_sl ([.ref a0.1, .int p1]) ++ List.replicate (2 - (lg_sl ([.ref a0.1, .int p1])).length) Slot.unset).toArray = ls at hl ⊢
  have hl : lv_has ls 2 [(0, .ref a0.1), (1, .int p1)] := hl
  have lk0 := hts (Cond.fieldLink RX6 13 "EnginesOnListModel" "s" "[I") (List.mem_of_getElem? (i := 2) rfl)
  have lk1 := hts (Cond.fieldLink RX6 170 "EnginesOnListModel" "rowed" "I") (List.mem_of_getElem? (i := 3) rfl)
  have lk2 := hts (Cond.fieldLink RX6 45 "EnginesOnListModel" "taped" "I") (List.mem_of_getElem? (i := 4) rfl)
  have lk3 := hts (Cond.fieldLink RX6 7 "EnginesOnListModel" "refusals" "[I") (List.mem_of_getElem? (i := 1) rfl)
  have hinX6 : ∀ w ∈ wsX60, w ∈ wsX6_count := by decide +kernel
  have fin : ∀ (pc : Nat) (v : Int32) (H : Heap) (locs : List Loc) (ls : Array Slot), some v = some out → va_P G.1 vwCl (ce_X6 G.2.1 a0 S0) H → va_D A (ce_X6 G.2.1 a0 S0) → va_S A s.heap H locs → decode cX6_count pc = .ok (.ireturn, 1) → W p l e (headSpec wsX6_count rm_X6_count).room s m args below meth c H locs 0 0 (MQ below (QRo G (ce_X6 G.2.1 a0 S0) out A) args s 0 0 A) (F0 m pc ls [.int v]) := fun pc v H locs ls ho hP hD hS hd => W.iret (v := v) hx hb hr (fun t ht hW => ⟨⟨v, (), rfl, Option.some.inj ho, by first | (rw [ht]; exact hP) | (dsimp only; rw [ht]; exact hP)⟩, hS.F ht⟩) hS.2.2 hd
  generalize MQ below (QRo G (ce_X6 G.2.1 a0 S0) out A) args s 0 0 A = Q at fin ⊢
  have blk22 : ∀ (v1 : Int32), f_X6_count_b22 S0 v1 = some out → ∀ (H : Heap) (locs : List Loc), va_P G.1 vwCl (ce_X6 G.2.1 a0 S0) H → va_D A (ce_X6 G.2.1 a0 S0) → va_S A s.heap H locs → ∀ (ls : Array Slot), lv_has ls 2 [(0, .ref a0.1), (1, .int v1)] → W p l e (headSpec wsX6_count rm_X6_count).room s m args below meth c H locs 0 0 Q (F0 m 22 ls []) := by
    intro v1 hf H locs hP hD hS ls hl
    rw [f_X6_count_b22] at hf
    refine lv_iload_n hx hb dX6_count_22 rfl (lv_at hl 1 rfl) ?_
    by_cases c1_0 : v1 = 0
    · replace hf := ob_pos c1_0 hf
      refine lv_tableIn (x := v1) (off := 45) (tgt := 68) hx hb dX6_count_23 (by rw [c1_0]; decide) (by rw [c1_0]; decide) (by rw [c1_0]; decide) (by decide) ?_
      refine lv_aload_n hx hb dX6_count_68 rfl (lv_at hl 0 rfl) ?_
      refine va_get (D := G.1) (ci := 6) (v := .ref a0.2.2.1) (C := RX6) (T := TX6) (N := 14) hx hb hts hinX6 hown hK hP 0 rfl rfl 1 (by decide) lk0 (fun _ h9 => h9) rfl dX6_count_69 ?_
      refine lv_iconst (v := 0) hx hb dX6_count_72 (by decide) ?_
      refine va_iald hx hb hK hP 2 0 rfl rfl (by decide : inB 0 130) dX6_count_73 ?_
      refine zl_top (y := S0.2.1 0) rfl ?_
      exact fin _ _ _ _ _ hf hP hD hS dX6_count_74
    · replace hf := ob_neg c1_0 hf
      by_cases c1_1 : v1 = 1
      · replace hf := ob_pos c1_1 hf
        refine lv_tableIn (x := v1) (off := 52) (tgt := 75) hx hb dX6_count_23 (by rw [c1_1]; decide) (by rw [c1_1]; decide) (by rw [c1_1]; decide) (by decide) ?_
        refine lv_aload_n hx hb dX6_count_75 rfl (lv_at hl 0 rfl) ?_
        refine va_get (D := G.1) (ci := 6) (v := .ref a0.2.2.1) (C := RX6) (T := TX6) (N := 14) hx hb hts hinX6 hown hK hP 0 rfl rfl 1 (by decide) lk0 (fun _ h9 => h9) rfl dX6_count_76 ?_
        refine lv_iconst (v := 1) hx hb dX6_count_79 (by decide) ?_
        refine va_iald hx hb hK hP 2 0 rfl rfl (by decide : inB 1 130) dX6_count_80 ?_
        refine zl_top (y := S0.2.1 1) rfl ?_
        exact fin _ _ _ _ _ hf hP hD hS dX6_count_81
      · replace hf := ob_neg c1_1 hf
        by_cases c1_2 : v1 = 2
        · replace hf := ob_pos c1_2 hf
          refine lv_tableIn (x := v1) (off := 59) (tgt := 82) hx hb dX6_count_23 (by rw [c1_2]; decide) (by rw [c1_2]; decide) (by rw [c1_2]; decide) (by decide) ?_
          refine lv_aload_n hx hb dX6_count_82 rfl (lv_at hl 0 rfl) ?_
          refine va_get (D := G.1) (ci := 6) (v := .ref a0.2.2.1) (C := RX6) (T := TX6) (N := 14) hx hb hts hinX6 hown hK hP 0 rfl rfl 1 (by decide) lk0 (fun _ h9 => h9) rfl dX6_count_83 ?_
          refine lv_iconst (v := 2) hx hb dX6_count_86 (by decide) ?_
          refine va_iald hx hb hK hP 2 0 rfl rfl (by decide : inB 2 130) dX6_count_87 ?_
          refine zl_top (y := S0.2.1 2) rfl ?_
          obtain ⟨r2, hr2, hf⟩ := ob_bind hf
          have hPc : va_P G.1 vwCl (([] : va_W)) H := hP.sub [] rfl
          have hDc : va_D A (([] : va_W)) := hD.sub [] (by decide) rfl
          have hFc := va_free (wc := ([] : va_W)) hD hS hA [] rfl
          refine zc_ro (va_runS (As := [.int (S0.2.1 2)]) (rest := []) ⟨hx, hb, hml, hown, hts⟩ (c_X6_bits l G H.size (S0.2.1 2) _ hr2) (va_cwS 1 hts gX6_count_X6_bits rfl rfl rfl (by decide +kernel) ⟨Nat.le_of_ble_eq_true rfl, Nat.le_of_ble_eq_true rfl⟩) ⟨PcM.blind, PcM.ok hPc hDc hK hE hS hFc⟩ rfl rfl hl.1 rfl (lv_room (Nat.le_of_ble_eq_true rfl)) dX6_count_88 ⟨Nat.le_refl _, Nat.le_refl _⟩) hP hD hS hA [] rfl (fun H locs hP hS => ?_)
          exact fin _ _ _ _ _ hf hP hD hS dX6_count_91
        · replace hf := ob_neg c1_2 hf
          by_cases c1_3 : v1 = 3
          · replace hf := ob_pos c1_3 hf
            refine lv_tableIn (x := v1) (off := 69) (tgt := 92) hx hb dX6_count_23 (by rw [c1_3]; decide) (by rw [c1_3]; decide) (by rw [c1_3]; decide) (by decide) ?_
            refine lv_aload_n hx hb dX6_count_92 rfl (lv_at hl 0 rfl) ?_
            obtain ⟨r3, hr3, hf⟩ := ob_bind hf
            have hFc := va_free (wc := ce_X6 G.2.1 a0 S0) hD hS hA [0, 1, 2, 3, 4, 5, 6, 7, 8, 9] rfl
            refine zc_ro (va_runV (As := []) (rest := []) ⟨hx, hb, hml, hown, hts⟩ (c_X6_allNew l G a0 H.size S0 _ hr3) (cwV 0 hts gX6_count_X6_allNew rfl rfl rfl (by decide +kernel) ⟨Nat.le_of_ble_eq_true rfl, Nat.le_of_ble_eq_true rfl⟩) ⟨PcM.blind, va_recv hK hP (ci := 6) (q0 := 0) rfl rfl, PcM.ok hP hD hK hE hS hFc⟩ rfl rfl hl.1 rfl (lv_room (Nat.le_of_ble_eq_true rfl)) dX6_count_93 ⟨Nat.le_refl _, Nat.le_refl _⟩) hP hD hS hA [0, 1, 2, 3, 4, 5, 6, 7, 8, 9] rfl (fun H locs hP hS => ?_)
            exact fin _ _ _ _ _ hf hP hD hS dX6_count_96
          · replace hf := ob_neg c1_3 hf
            by_cases c1_4 : v1 = 4
            · replace hf := ob_pos c1_4 hf
              refine lv_tableIn (x := v1) (off := 74) (tgt := 97) hx hb dX6_count_23 (by rw [c1_4]; decide) (by rw [c1_4]; decide) (by rw [c1_4]; decide) (by decide) ?_
              refine lv_aload_n hx hb dX6_count_97 rfl (lv_at hl 0 rfl) ?_
              refine va_get (D := G.1) (ci := 6) (v := .ref a0.2.2.1) (C := RX6) (T := TX6) (N := 14) hx hb hts hinX6 hown hK hP 0 rfl rfl 1 (by decide) lk0 (fun _ h9 => h9) rfl dX6_count_98 ?_
              refine lv_iconst (v := 4) hx hb dX6_count_101 (by decide) ?_
              refine va_iald hx hb hK hP 2 0 rfl rfl (by decide : inB 4 130) dX6_count_102 ?_
              refine zl_top (y := S0.2.1 4) rfl ?_
              exact fin _ _ _ _ _ hf hP hD hS dX6_count_103
            · replace hf := ob_neg c1_4 hf
              by_cases c1_5 : v1 = 5
              · replace hf := ob_pos c1_5 hf
                refine lv_tableIn (x := v1) (off := 81) (tgt := 104) hx hb dX6_count_23 (by rw [c1_5]; decide) (by rw [c1_5]; decide) (by rw [c1_5]; decide) (by decide) ?_
                refine lv_aload_n hx hb dX6_count_104 rfl (lv_at hl 0 rfl) ?_
                refine va_get (D := G.1) (ci := 6) (v := .int S0.2.2.2.2.2.2.2.2.2.2.2.2.2) (C := RX6) (T := TX6) (N := 14) hx hb hts hinX6 hown hK hP 0 rfl rfl 13 (by decide) lk1 (fun _ h9 => h9) rfl dX6_count_105 ?_
                exact fin _ _ _ _ _ hf hP hD hS dX6_count_108
              · replace hf := ob_neg c1_5 hf
                by_cases c1_6 : v1 = 6
                · replace hf := ob_pos c1_6 hf
                  refine lv_tableIn (x := v1) (off := 86) (tgt := 109) hx hb dX6_count_23 (by rw [c1_6]; decide) (by rw [c1_6]; decide) (by rw [c1_6]; decide) (by decide) ?_
                  refine lv_aload_n hx hb dX6_count_109 rfl (lv_at hl 0 rfl) ?_
                  refine va_get (D := G.1) (ci := 6) (v := .int S0.2.2.2.2.2.2.2.1) (C := RX6) (T := TX6) (N := 14) hx hb hts hinX6 hown hK hP 0 rfl rfl 7 (by decide) lk2 (fun _ h9 => h9) rfl dX6_count_110 ?_
                  exact fin _ _ _ _ _ hf hP hD hS dX6_count_113
                · replace hf := ob_neg c1_6 hf
                  by_cases c1_7 : v1 = 7
                  · replace hf := ob_pos c1_7 hf
                    refine lv_tableIn (x := v1) (off := 91) (tgt := 114) hx hb dX6_count_23 (by rw [c1_7]; decide) (by rw [c1_7]; decide) (by rw [c1_7]; decide) (by decide) ?_
                    refine lv_aload_n hx hb dX6_count_114 rfl (lv_at hl 0 rfl) ?_
                    refine va_get (D := G.1) (ci := 6) (v := .ref a0.2.2.1) (C := RX6) (T := TX6) (N := 14) hx hb hts hinX6 hown hK hP 0 rfl rfl 1 (by decide) lk0 (fun _ h9 => h9) rfl dX6_count_115 ?_
                    refine lv_iconst (v := 3) hx hb dX6_count_118 (by decide) ?_
                    refine va_iald hx hb hK hP 2 0 rfl rfl (by decide : inB 3 130) dX6_count_119 ?_
                    refine zl_top (y := S0.2.1 3) rfl ?_
                    obtain ⟨r4, hr4, hf⟩ := ob_bind hf
                    have hPc : va_P G.1 vwCl (([] : va_W)) H := hP.sub [] rfl
                    have hDc : va_D A (([] : va_W)) := hD.sub [] (by decide) rfl
                    have hFc := va_free (wc := ([] : va_W)) hD hS hA [] rfl
                    refine zc_ro (va_runS (As := [.int (S0.2.1 3)]) (rest := []) ⟨hx, hb, hml, hown, hts⟩ (c_X6_bits l G H.size (S0.2.1 3) _ hr4) (va_cwS 1 hts gX6_count_X6_bits rfl rfl rfl (by decide +kernel) ⟨Nat.le_of_ble_eq_true rfl, Nat.le_of_ble_eq_true rfl⟩) ⟨PcM.blind, PcM.ok hPc hDc hK hE hS hFc⟩ rfl rfl hl.1 rfl (lv_room (Nat.le_of_ble_eq_true rfl)) dX6_count_120 ⟨Nat.le_refl _, Nat.le_refl _⟩) hP hD hS hA [] rfl (fun H locs hP hS => ?_)
                    exact fin _ _ _ _ _ hf hP hD hS dX6_count_123
                  · replace hf := ob_neg c1_7 hf
                    have tc1_0 := lv_neT (a := 0) c1_0 rfl
                    have tc1_1 := lv_neT (a := 1) c1_1 rfl
                    have tc1_2 := lv_neT (a := 2) c1_2 rfl
                    have tc1_3 := lv_neT (a := 3) c1_3 rfl
                    have tc1_4 := lv_neT (a := 4) c1_4 rfl
                    have tc1_5 := lv_neT (a := 5) c1_5 rfl
                    have tc1_6 := lv_neT (a := 6) c1_6 rfl
                    have tc1_7 := lv_neT (a := 7) c1_7 rfl
                    refine lv_tableOut (x := v1) (tgt := 124) hx hb dX6_count_23 (by omega) (by decide) ?_
                    refine lv_bipush (v := (-9)) hx hb dX6_count_124 (by decide) ?_
                    exact fin _ _ _ _ _ hf hP hD hS dX6_count_126
  have go : ∀ (H : Heap) (locs : List Loc), va_P G.1 vwCl (ce_X6 G.2.1 a0 S0) H → va_D A (ce_X6 G.2.1 a0 S0) → va_S A s.heap H locs → ∀ (ls : Array Slot), lv_has ls 2 [(0, .ref a0.1), (1, .int p1)] → W p l e (headSpec wsX6_count rm_X6_count).room s m args below meth c H locs 0 0 Q (F0 m 0 ls []) := by
    intro H locs hP hD hS ls hl
    refine lv_iload_n hx hb dX6_count_0 rfl (lv_at hl 1 rfl) ?_
    refine lv_bipush (v := 10) hx hb dX6_count_1 (by decide) ?_
    refine lv_icmp_le (tgt := 22) hx hb dX6_count_3 (by decide) (fun c5 => ?_) (fun c5 => ?_)
    · replace hf := ob_pos c5 hf
      exact blk22 _ hf _ _ hP hD hS _ (lv_sub hl [0, 1] rfl)
    · replace hf := ob_neg c5 hf
      refine lv_iload_n hx hb dX6_count_6 rfl (lv_at hl 1 rfl) ?_
      refine lv_bipush (v := 17) hx hb dX6_count_7 (by decide) ?_
      refine lv_icmp_ge (tgt := 22) hx hb dX6_count_9 (by decide) (fun c6 => ?_) (fun c6 => ?_)
      · replace hf := ob_pos c6 hf
        exact blk22 _ hf _ _ hP hD hS _ (lv_sub hl [0, 1] rfl)
      · replace hf := ob_neg c6 hf
        refine lv_aload_n hx hb dX6_count_12 rfl (lv_at hl 0 rfl) ?_
        refine va_get (D := G.1) (ci := 6) (v := .ref a0.2.1) (C := RX6) (T := TX6) (N := 14) hx hb hts hinX6 hown hK hP 0 rfl rfl 0 (by decide) lk3 (fun _ h9 => h9) rfl dX6_count_13 ?_
        refine lv_iload_n hx hb dX6_count_16 rfl (lv_at hl 1 rfl) ?_
        refine lv_bipush (v := 10) hx hb dX6_count_17 (by decide) ?_
        refine lv_isub hx hb dX6_count_19 ?_
        obtain ⟨hg7, hf⟩ := ob_guard hf
        refine va_iald hx hb hK hP 1 0 rfl rfl hg7 dX6_count_20 ?_
        exact fin _ _ _ _ _ hf hP hD hS dX6_count_21
  exact go _ _ hP hD hS _ hl
