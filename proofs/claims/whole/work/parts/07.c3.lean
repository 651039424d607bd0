abbrev rm_X5_refuse : Room := { frames := 1, cells := 0, slots := 0, locals := 24 }
set_option maxHeartbeats 4000000 in
set_option maxRecDepth 100000 in
theorem c_X5_refuse (l : Launch) (G : zG) (a0 : AT_X5) (sz : Nat) (S0 : ST_X5) (p1 : Int32) (out : Int32 × ST_X5) (hf : f_X5_refuse S0 p1 = some out) : Met l yX5_refuse wsX5_refuse rm_X5_refuse (PcM G (ce_X5 G.2.1 a0 S0) [.ref a0.1, .int p1] sz) (QWr G (fun u => ce_X5 G.2.1 a0 u) out (va_A (ce_X5 G.2.1 a0 S0) sz)) 0 0 (va_A (ce_X5 G.2.1 a0 S0) sz) := by
  rw [f_X5_refuse] at hf
  refine Met.ofW (cc := cX5_refuse) (maxL := 2) (ret := (some .int)) (by decide) rfl ?_
  intro p e s m args below meth c s₁ B hml hv
  obtain ⟨hargs, hsz, hP, hK, hD0, hE⟩ := hv
  have hx := B.exec
  have hb := B.bytes
  have hr := B.returns
  have hts := atoms_spec (ws := wsX5_refuse) B.pre
  have hown : s.vm.findClass RX5 = some m.cls := findClass_of_methodNamed B.named
  have hlocks := B.notSynchronized
  subst hsz
  have hD := hD0.self (sz := s.heap.size)
  generalize hAe : va_A (ce_X5 G.2.1 a0 S0) s.heap.size = A at hD hE ⊢
  have hA : ∀ q : Nat, s.heap.size ≤ q → A q := fun q h => by rw [← hAe]; exact Or.inr h
  have hS : va_S A s.heap s.heap [] := va_S.rf
  have hl := lv_entry ([.ref a0.1, .int p1]) (n := 2) (Nat.le_of_ble_eq_true rfl)
  have hent : entryFrame m args 2 = F0 m 0 ((lg_sl ([.ref a0.1, .int p1]) ++ List.replicate (2 - (lg_sl ([.ref a0.1, .int p1])).length) Slot.unset).toArray) [] := by rw [hargs, lg_entry_eq]
  rw [hent]
  clear hent
  generalize (lg_sl ([.ref a0.1, .int p1]) ++ List.replicate (2 - (lg_sl ([.ref a0.1, .int p1])).length) Slot.unset).toArray = ls at hl ⊢
  have hl : lv_has ls 2 [(0, .ref a0.1), (1, .int p1)] := hl
  have lk0 := hts (Cond.fieldLink RX5 44 "EnginesOnList" "refused" "[I") (List.mem_of_getElem? (i := 1) rfl)
  have hinX5 : ∀ w ∈ wsX50, w ∈ wsX5_refuse := by decide +kernel
  have fin : ∀ (pc : Nat) (v : Int32) (u : ST_X5) (H : Heap) (locs : List Loc) (ls : Array Slot), some (v, u) = some out → va_P G.1 vwCl (ce_X5 G.2.1 a0 u) H → va_D A (ce_X5 G.2.1 a0 u) → va_S A s.heap H locs → decode cX5_refuse pc = .ok (.ireturn, 1) → W p l e (headSpec wsX5_refuse rm_X5_refuse).room s m args below meth c H locs 0 0 (MQ below (QWr G (fun u => ce_X5 G.2.1 a0 u) out A) args s 0 0 A) (F0 m pc ls [.int v]) := fun pc v u H locs ls ho hP hD hS hd => W.iret (v := v) hx hb hr (fun t ht hW => ⟨⟨v, u, rfl, ob_pair ho, by first | (rw [ht]; exact hP) | (dsimp only; rw [ht]; exact hP), hD⟩, hS.F ht⟩) hS.2.2 hd
  generalize MQ below (QWr G (fun u => ce_X5 G.2.1 a0 u) out A) args s 0 0 A = Q at fin ⊢
  have blk23 : ∀ (S0 : ST_X5) (v1 : Int32), f_X5_refuse_b23 S0 v1 = some out → ∀ (H : Heap) (locs : List Loc), va_P G.1 vwCl (ce_X5 G.2.1 a0 S0) H → va_D A (ce_X5 G.2.1 a0 S0) → va_S A s.heap H locs → ∀ (ls : Array Slot), lv_has ls 2 [(1, .int v1)] → W p l e (headSpec wsX5_refuse rm_X5_refuse).room s m args below meth c H locs 0 0 Q (F0 m 23 ls []) := by
    intro S0 v1 hf H locs hP hD hS ls hl
    rw [f_X5_refuse_b23] at hf
    refine lv_iload_n hx hb dX5_refuse_23 rfl (lv_at hl 0 rfl) ?_
    exact fin _ _ _ _ _ _ hf hP hD hS dX5_refuse_24
  have go : ∀ (H : Heap) (locs : List Loc), va_P G.1 vwCl (ce_X5 G.2.1 a0 S0) H → va_D A (ce_X5 G.2.1 a0 S0) → va_S A s.heap H locs → ∀ (ls : Array Slot), lv_has ls 2 [(0, .ref a0.1), (1, .int p1)] → W p l e (headSpec wsX5_refuse rm_X5_refuse).room s m args below meth c H locs 0 0 Q (F0 m 0 ls []) := by
    intro H locs hP hD hS ls hl
    refine lv_iload_n hx hb dX5_refuse_0 rfl (lv_at hl 1 rfl) ?_
    refine lv_if_ge (tgt := 23) hx hb dX5_refuse_1 (by decide) (fun c1 => ?_) (fun c1 => ?_)
    · replace hf := ob_pos c1 hf
      exact blk23 _ _ hf _ _ hP hD hS _ (lv_sub hl [1] rfl)
    · replace hf := ob_neg c1 hf
      refine lv_iload_n hx hb dX5_refuse_4 rfl (lv_at hl 1 rfl) ?_
      refine lv_bipush (v := (-6)) hx hb dX5_refuse_5 (by decide) ?_
      refine lv_icmp_lt (tgt := 23) hx hb dX5_refuse_7 (by decide) (fun c2 => ?_) (fun c2 => ?_)
      · replace hf := ob_pos c2 hf
        exact blk23 _ _ hf _ _ hP hD hS _ (lv_sub hl [1] rfl)
      · replace hf := ob_neg c2 hf
        refine lv_aload_n hx hb dX5_refuse_10 rfl (lv_at hl 0 rfl) ?_
        refine va_get (D := G.1) (ci := 5) (v := .ref a0.2.2.2.2.2.2.2) (C := RX5) (T := TX5) (N := 9) hx hb hts hinX5 hown hK hP 0 rfl rfl 8 (by decide) lk0 (fun _ h9 => h9) rfl dX5_refuse_11 ?_
        refine lv_iload_n hx hb dX5_refuse_14 rfl (lv_at hl 1 rfl) ?_
        refine lv_ineg hx hb dX5_refuse_15 ?_
        refine lv_iconst (v := 1) hx hb dX5_refuse_16 (by decide) ?_
        refine lv_isub hx hb dX5_refuse_17 ?_
        refine lv_dup2_11 hx hb dX5_refuse_18 rfl rfl ?_
        obtain ⟨hg3, hf⟩ := ob_guard hf
        refine va_iald hx hb hK hP 38 0 rfl rfl hg3 dX5_refuse_19 ?_
        refine lv_iconst (v := 1) hx hb dX5_refuse_20 (by decide) ?_
        refine lv_iadd hx hb dX5_refuse_21 ?_
        obtain ⟨hg4, hf⟩ := ob_guard hf
        refine va_iast hx hb hK hP hD hS 38 0 rfl rfl hg4 dX5_refuse_22 (fun H locs hP hD hS => ?_)
        have hP : va_P G.1 vwCl (ce_X5 G.2.1 a0 (S0.1, S0.2.1, S0.2.2.1, S0.2.2.2.1, S0.2.2.2.2.1, S0.2.2.2.2.2.1, S0.2.2.2.2.2.2.1, S0.2.2.2.2.2.2.2.1, (upd S0.2.2.2.2.2.2.2.2 (((-p1) - 1).toNatClampNeg) ((S0.2.2.2.2.2.2.2.2 ((-p1) - 1).toNatClampNeg) + 1)))) H := hP
        have hD : va_D A (ce_X5 G.2.1 a0 (S0.1, S0.2.1, S0.2.2.1, S0.2.2.2.1, S0.2.2.2.2.1, S0.2.2.2.2.2.1, S0.2.2.2.2.2.2.1, S0.2.2.2.2.2.2.2.1, (upd S0.2.2.2.2.2.2.2.2 (((-p1) - 1).toNatClampNeg) ((S0.2.2.2.2.2.2.2.2 ((-p1) - 1).toNatClampNeg) + 1)))) := hD
        exact blk23 _ _ hf _ _ hP hD hS _ (lv_sub hl [1] rfl)
  exact go _ _ hP hD hS _ hl
abbrev rm_X5_letter : Room := { frames := 2, cells := 0, slots := 0, locals := 45 }
set_option maxHeartbeats 4000000 in
set_option maxRecDepth 100000 in
theorem c_X5_letter (l : Launch) (G : zG) (a0 : AT_X5) (sz : Nat) (S0 : ST_X5) (p1 : Int32) (out : Int32 × ST_X5) (hf : f_X5_letter S0 p1 = some out) : Met l yX5_letter wsX5_letter rm_X5_letter (PcM G (ce_X5 G.2.1 a0 S0) [.ref a0.1, .int p1] sz) (QWr G (fun u => ce_X5 G.2.1 a0 u) out (va_A (ce_X5 G.2.1 a0 S0) sz)) 0 0 (va_A (ce_X5 G.2.1 a0 S0) sz) := by
  rw [f_X5_letter] at hf
  refine Met.ofW (cc := cX5_letter) (maxL := 2) (ret := (some .int)) (by decide) rfl ?_
  intro p e s m args below meth c s₁ B hml hv
  obtain ⟨hargs, hsz, hP, hK, hD0, hE⟩ := hv
  have hx := B.exec
  have hb := B.bytes
  have hr := B.returns
  have hts := atoms_spec (ws := wsX5_letter) B.pre
  have hown : s.vm.findClass RX5 = some m.cls := findClass_of_methodNamed B.named
  have hlocks := B.notSynchronized
  subst hsz
  have hD := hD0.self (sz := s.heap.size)
  generalize hAe : va_A (ce_X5 G.2.1 a0 S0) s.heap.size = A at hD hE ⊢
  have hA : ∀ q : Nat, s.heap.size ≤ q → A q := fun q h => by rw [← hAe]; exact Or.inr h
  have hS : va_S A s.heap s.heap [] := va_S.rf
  have hl := lv_entry ([.ref a0.1, .int p1]) (n := 2) (Nat.le_of_ble_eq_true rfl)
  have hent : entryFrame m args 2 = F0 m 0 ((lg_sl ([.ref a0.1, .int p1]) ++ List.replicate (2 - (lg_sl ([.ref a0.1, .int p1])).length) Slot.unset).toArray) [] := by rw [hargs, lg_entry_eq]
  rw [hent]
  clear hent
  generalize (lg_sl ([.ref a0.1, .int p1]) ++ List.replicate (2 - (lg_sl ([.ref a0.1, .int p1])).length) Slot.unset).toArray = ls at hl ⊢
  have hl : lv_has ls 2 [(0, .ref a0.1), (1, .int p1)] := hl
  have lk0 := hts (Cond.fieldLink RX5 10 "EnginesOnList" "letters" "LEnginesOnList$Letters;") (List.mem_of_getElem? (i := 1) rfl)
  have lk1 := hts (Cond.initialized RX2) (List.mem_of_getElem? (i := 9) rfl)
  have lk2 := hts (Cond.instanceMethod yX2_add) (List.mem_of_getElem? (i := 8) rfl)
  have lk3 := hts (Cond.selects RX2 yX2_add yX2_add) (List.mem_of_getElem? (i := 10) rfl)
  have lk4 := va_Nw.use (A := args) rfl (hE.1 _ nw_0)
  have hinX5 : ∀ w ∈ wsX50, w ∈ wsX5_letter := by decide +kernel
  have hinX2 : ∀ w ∈ wsX20, w ∈ wsX5_letter := by decide +kernel
  have fin : ∀ (pc : Nat) (v : Int32) (u : ST_X5) (H : Heap) (locs : List Loc) (ls : Array Slot), some (v, u) = some out → va_P G.1 vwCl (ce_X5 G.2.1 a0 u) H → va_D A (ce_X5 G.2.1 a0 u) → va_S A s.heap H locs → decode cX5_letter pc = .ok (.ireturn, 1) → W p l e (headSpec wsX5_letter rm_X5_letter).room s m args below meth c H locs 0 0 (MQ below (QWr G (fun u => ce_X5 G.2.1 a0 u) out A) args s 0 0 A) (F0 m pc ls [.int v]) := fun pc v u H locs ls ho hP hD hS hd => W.iret (v := v) hx hb hr (fun t ht hW => ⟨⟨v, u, rfl, ob_pair ho, by first | (rw [ht]; exact hP) | (dsimp only; rw [ht]; exact hP), hD⟩, hS.F ht⟩) hS.2.2 hd
  generalize MQ below (QWr G (fun u => ce_X5 G.2.1 a0 u) out A) args s 0 0 A = Q at fin ⊢
  have blk29 : ∀ (S0 : ST_X5), f_X5_letter_b29 S0 = some out → ∀ (H : Heap) (locs : List Loc), va_P G.1 vwCl (ce_X5 G.2.1 a0 S0) H → va_D A (ce_X5 G.2.1 a0 S0) → va_S A s.heap H locs → ∀ (ls : Array Slot), lv_has ls 2 [(0, .ref a0.1)] → W p l e (headSpec wsX5_letter rm_X5_letter).room s m args below meth c H locs 0 0 Q (F0 m 29 ls []) := by
    intro S0 hf H locs hP hD hS ls hl
    rw [f_X5_letter_b29] at hf
    refine lv_aload_n hx hb dX5_letter_29 rfl (lv_at hl 0 rfl) ?_
    refine lv_bipush (v := (-6)) hx hb dX5_letter_30 (by decide) ?_
    obtain ⟨r1, hr1, hf⟩ := ob_bind hf
    have hFc := va_free (wc := ce_X5 G.2.1 a0 S0) hD hS hA [0, 1, 2, 3, 4, 5, 6, 7, 8, 9, 10, 11, 12, 13, 14, 15, 16, 17, 18, 19, 20, 21, 22, 23, 24, 25, 26, 27, 28, 29, 30, 31, 32, 33, 34, 35, 36, 37, 38] rfl
    refine zc_wr (cf := (fun u => ce_X5 G.2.1 a0 u)) (ws' := ce_X5 G.2.1 a0 r1.2) (va_runV (As := [.int (-6)]) (rest := []) ⟨hx, hb, hml, hown, hts⟩ (c_X5_refuse l G a0 H.size S0 (-6) _ hr1) (cwV 1 hts gX5_letter_X5_refuse rfl rfl rfl (by decide +kernel) ⟨Nat.le_of_ble_eq_true rfl, Nat.le_of_ble_eq_true rfl⟩) ⟨PcM.blind, va_recv hK hP (ci := 5) (q0 := 0) rfl rfl, PcM.ok hP hD hK hE hS hFc⟩ rfl rfl hl.1 rfl (lv_room (Nat.le_of_ble_eq_true rfl)) dX5_letter_32 ⟨Nat.le_refl _, Nat.le_refl _⟩) hP hD hS hA [0, 1, 2, 3, 4, 5, 6, 7, 8, 9, 10, 11, 12, 13, 14, 15, 16, 17, 18, 19, 20, 21, 22, 23, 24, 25, 26, 27, 28, 29, 30, 31, 32, 33, 34, 35, 36, 37, 38] [] [0, 1, 2, 3, 4, 5, 6, 7, 8, 9, 10, 11, 12, 13, 14, 15, 16, 17, 18, 19, 20, 21, 22, 23, 24, 25, 26, 27, 28, 29, 30, 31, 32, 33, 34, 35, 36, 37, 38] rfl rfl (by decide) (by decide) (by decide) rfl (fun H locs hP hD hS => ?_)
    exact fin _ _ _ _ _ _ hf hP hD hS dX5_letter_35
  have go : ∀ (H : Heap) (locs : List Loc), va_P G.1 vwCl (ce_X5 G.2.1 a0 S0) H → va_D A (ce_X5 G.2.1 a0 S0) → va_S A s.heap H locs → ∀ (ls : Array Slot), lv_has ls 2 [(0, .ref a0.1), (1, .int p1)] → W p l e (headSpec wsX5_letter rm_X5_letter).room s m args below meth c H locs 0 0 Q (F0 m 0 ls []) := by
    intro H locs hP hD hS ls hl
    refine lv_iload_n hx hb dX5_letter_0 rfl (lv_at hl 1 rfl) ?_
    refine lv_if_ge (tgt := 11) hx hb dX5_letter_1 (by decide) (fun c2 => ?_) (fun c2 => ?_)
    · replace hf := ob_pos c2 hf
      refine lv_iload_n hx hb dX5_letter_11 rfl (lv_at hl 1 rfl) ?_
      refine lv_sipush (v := 255) hx hb dX5_letter_12 (by decide) ?_
      refine lv_icmp_gt (tgt := 29) hx hb dX5_letter_15 (by decide) (fun c3 => ?_) (fun c3 => ?_)
      · replace hf := ob_pos c3 hf
        exact blk29 _ hf _ _ hP hD hS _ (lv_sub hl [0] rfl)
      · replace hf := ob_neg c3 hf
        refine lv_aload_n hx hb dX5_letter_18 rfl (lv_at hl 0 rfl) ?_
        refine va_get (D := G.1) (ci := 5) (v := .ref a0.2.1.1) (C := RX5) (T := TX5) (N := 9) hx hb hts hinX5 hown hK hP 0 rfl rfl 0 (by decide) lk0 (fun _ h9 => h9) rfl dX5_letter_19 ?_
        refine lv_iload_n hx hb dX5_letter_22 rfl (lv_at hl 1 rfl) ?_
        obtain ⟨r4, hr4, hf⟩ := ob_bind hf
        have hPc : va_P G.1 vwCl (ce_X2 G.2.1 a0.2.1 S0.1) H := hP.sub [1, 2] rfl
        have hDc : va_D A (ce_X2 G.2.1 a0.2.1 S0.1) := hD.sub [1, 2] (by decide) rfl
        have hFc := va_free (wc := ce_X2 G.2.1 a0.2.1 S0.1) hD hS hA [1, 2] rfl
        refine zc_wr (cf := (fun u => ce_X2 G.2.1 a0.2.1 u)) (ws' := ce_X5 G.2.1 a0 (r4.2, S0.2.1, S0.2.2.1, S0.2.2.2.1, S0.2.2.2.2.1, S0.2.2.2.2.2.1, S0.2.2.2.2.2.2.1, S0.2.2.2.2.2.2.2.1, S0.2.2.2.2.2.2.2.2)) (va_runVN (As := [.int p1]) (rest := []) ⟨hx, hb, hml, hown, hts⟩ (c_X2_add l G a0.2.1 H.size S0.1 p1 _ hr4) (⟨va_cnB 1 hts gX5_letter_X2_add_n51 rfl rfl rfl (hE.1 _ nw_26) lk1 (by decide +kernel) ⟨Nat.le_of_ble_eq_true rfl, Nat.le_of_ble_eq_true rfl⟩, lk2, lk3⟩) ⟨PcM.blind, va_recv hK hPc (ci := 2) (q0 := 0) rfl rfl, PcM.ok hPc hDc hK hE hS hFc⟩ rfl rfl hl.1 rfl (lv_room (Nat.le_of_ble_eq_true rfl)) dX5_letter_23 ⟨Nat.le_refl _, Nat.le_refl _⟩) hP hD hS hA [1, 2] [0, 3, 4, 5, 6, 7, 8, 9, 10, 11, 12, 13, 14, 15, 16, 17, 18, 19, 20, 21, 22, 23, 24, 25, 26, 27, 28, 29, 30, 31, 32, 33, 34, 35, 36, 37, 38] [0, 37, 38, 1, 2, 3, 4, 5, 6, 7, 8, 9, 10, 11, 12, 13, 14, 15, 16, 17, 18, 19, 20, 21, 22, 23, 24, 25, 26, 27, 28, 29, 30, 31, 32, 33, 34, 35, 36] rfl rfl (by decide) (by decide) (by decide) rfl (fun H locs hP hD hS => ?_)
        refine lv_if_ne (tgt := 36) hx hb dX5_letter_26 (by decide) (fun c5 => ?_) (fun c5 => ?_)
        · replace hf := ob_neg c5 hf
          refine lv_aload_n hx hb dX5_letter_36 rfl (lv_at hl 0 rfl) ?_
          refine va_get (D := G.1) (ci := 5) (v := .ref a0.2.1.1) (C := RX5) (T := TX5) (N := 9) hx hb hts hinX5 hown hK hP 0 rfl rfl 0 (by decide) lk0 (fun _ h9 => h9) rfl dX5_letter_37 ?_
          refine va_getN (D := G.1) (ci := 2) (v := .int r4.2.2) (C := RX2) (T := TX2) (N := 2) hx hb hts hinX2 hown hK hP 1 rfl rfl 1 (by decide) lk4 (fun _ h9 => h9) rfl dX5_letter_40 ?_
          exact fin _ _ _ _ _ _ hf hP hD hS dX5_letter_43
        · replace hf := ob_pos c5 hf
          exact blk29 _ hf _ _ hP hD hS _ (lv_sub hl [0] rfl)
    · replace hf := ob_neg c2 hf
      refine lv_aload_n hx hb dX5_letter_4 rfl (lv_at hl 0 rfl) ?_
      refine lv_bipush (v := (-4)) hx hb dX5_letter_5 (by decide) ?_
      obtain ⟨r6, hr6, hf⟩ := ob_bind hf
      have hFc := va_free (wc := ce_X5 G.2.1 a0 S0) hD hS hA [0, 1, 2, 3, 4, 5, 6, 7, 8, 9, 10, 11, 12, 13, 14, 15, 16, 17, 18, 19, 20, 21, 22, 23, 24, 25, 26, 27, 28, 29, 30, 31, 32, 33, 34, 35, 36, 37, 38] rfl
      refine zc_wr (cf := (fun u => ce_X5 G.2.1 a0 u)) (ws' := ce_X5 G.2.1 a0 r6.2) (va_runV (As := [.int (-4)]) (rest := []) ⟨hx, hb, hml, hown, hts⟩ (c_X5_refuse l G a0 H.size S0 (-4) _ hr6) (cwV 1 hts gX5_letter_X5_refuse rfl rfl rfl (by decide +kernel) ⟨Nat.le_of_ble_eq_true rfl, Nat.le_of_ble_eq_true rfl⟩) ⟨PcM.blind, va_recv hK hP (ci := 5) (q0 := 0) rfl rfl, PcM.ok hP hD hK hE hS hFc⟩ rfl rfl hl.1 rfl (lv_room (Nat.le_of_ble_eq_true rfl)) dX5_letter_7 ⟨Nat.le_refl _, Nat.le_refl _⟩) hP hD hS hA [0, 1, 2, 3, 4, 5, 6, 7, 8, 9, 10, 11, 12, 13, 14, 15, 16, 17, 18, 19, 20, 21, 22, 23, 24, 25, 26, 27, 28, 29, 30, 31, 32, 33, 34, 35, 36, 37, 38] [] [0, 1, 2, 3, 4, 5, 6, 7, 8, 9, 10, 11, 12, 13, 14, 15, 16, 17, 18, 19, 20, 21, 22, 23, 24, 25, 26, 27, 28, 29, 30, 31, 32, 33, 34, 35, 36, 37, 38] rfl rfl (by decide) (by decide) (by decide) rfl (fun H locs hP hD hS => ?_)
      exact fin _ _ _ _ _ _ hf hP hD hS dX5_letter_10
  exact go _ _ hP hD hS _ hl
abbrev rm_X5_landTold : Room := { frames := 8, cells := 0, slots := 0, locals := 185 }
set_option maxHeartbeats 4000000 in
set_option maxRecDepth 100000 in
theorem c_X5_landTold (l : Launch) (G : zG) (a0 : AT_X5) (sz : Nat) (S0 : ST_X5) (out : Int32 × ST_X5) (hf : f_X5_landTold S0 = some out) : Met l yX5_landTold wsX5_landTold rm_X5_landTold (PcM G (ce_X5 G.2.1 a0 S0) [.ref a0.1] sz) (QWr G (fun u => ce_X5 G.2.1 a0 u) out (va_A (ce_X5 G.2.1 a0 S0) sz)) 0 0 (va_A (ce_X5 G.2.1 a0 S0) sz) := by
  rw [f_X5_landTold] at hf
  refine Met.ofW (cc := cX5_landTold) (maxL := 5) (ret := (some .int)) (by decide) rfl ?_
  intro p e s m args below meth c s₁ B hml hv
  obtain ⟨hargs, hsz, hP, hK, hD0, hE⟩ := hv
  have hx := B.exec
  have hb := B.bytes
  have hr := B.returns
  have hts := atoms_spec (ws := wsX5_landTold) B.pre
  have hown : s.vm.findClass RX5 = some m.cls := findClass_of_methodNamed B.named
  have hlocks := B.notSynchronized
  subst hsz
  have hD := hD0.self (sz := s.heap.size)
  generalize hAe : va_A (ce_X5 G.2.1 a0 S0) s.heap.size = A at hD hE ⊢
  have hA : ∀ q : Nat, s.heap.size ≤ q → A q := fun q h => by rw [← hAe]; exact Or.inr h
  have hS : va_S A s.heap s.heap [] := va_S.rf
  have hl := lv_entry ([.ref a0.1]) (n := 5) (Nat.le_of_ble_eq_true rfl)
  have hent : entryFrame m args 5 = F0 m 0 ((lg_sl ([.ref a0.1]) ++ List.replicate (5 - (lg_sl ([.ref a0.1])).length) Slot.unset).toArray) [] := by rw [hargs, lg_entry_eq]
  rw [hent]
  clear hent
  generalize (lg_sl ([.ref a0.1]) ++ List.replicate (5 - (lg_sl ([.ref a0.1])).length) Slot.unset).toArray = ls at hl ⊢
  have hl : lv_has ls 5 [(0, .ref a0.1)] := hl
  have lk0 := hts (Cond.fieldLink RX5 10 "EnginesOnList" "letters" "LEnginesOnList$Letters;") (List.mem_of_getElem? (i := 1) rfl)
  have lk1 := va_Nw.use (A := args) rfl (hE.1 _ nw_0)
  have lk2 := hts (Cond.fieldLink RX5 19 "EnginesOnList" "now" "LEnginesOnList$World;") (List.mem_of_getElem? (i := 3) rfl)
  have lk3 := va_Nw.use (A := args) rfl (hE.1 _ nw_14)
  have lk4 := hts (Cond.fieldLink RX5 29 "EnginesOnList" "trial" "LEnginesOnList$Fleet;") (List.mem_of_getElem? (i := 2) rfl)
  have lk5 := hts (Cond.initialized RX1) (List.mem_of_getElem? (i := 144) rfl)
  have lk6 := hts (Cond.instanceMethod yX1_copyFrom) (List.mem_of_getElem? (i := 143) rfl)
  have lk7 := hts (Cond.selects RX1 yX1_copyFrom yX1_copyFrom) (List.mem_of_getElem? (i := 145) rfl)
  have lk8 := hts (Cond.initialized RX2) (List.mem_of_getElem? (i := 5) rfl)
  have lk9 := hts (Cond.instanceMethod yX2_sign) (List.mem_of_getElem? (i := 10) rfl)
  have lk10 := hts (Cond.selects RX2 yX2_sign yX2_sign) (List.mem_of_getElem? (i := 11) rfl)
  have lk11 := hts (Cond.instanceMethod yX1_takes) (List.mem_of_getElem? (i := 160) rfl)
  have lk12 := hts (Cond.selects RX1 yX1_takes yX1_takes) (List.mem_of_getElem? (i := 161) rfl)
  have lk13 := hts (Cond.instanceMethod yX2_stuckPlace) (List.mem_of_getElem? (i := 4) rfl)
  have lk14 := hts (Cond.selects RX2 yX2_stuckPlace yX2_stuckPlace) (List.mem_of_getElem? (i := 6) rfl)
  have hinX5 : ∀ w ∈ wsX50, w ∈ wsX5_landTold := by decide +kernel
  have hinX2 : ∀ w ∈ wsX20, w ∈ wsX5_landTold := by decide +kernel
  have hinX4 : ∀ w ∈ wsX40, w ∈ wsX5_landTold := by decide +kernel
  have fin : ∀ (pc : Nat) (v : Int32) (u : ST_X5) (H : Heap) (locs : List Loc) (ls : Array Slot), some (v, u) = some out → va_P G.1 vwCl (ce_X5 G.2.1 a0 u) H → va_D A (ce_X5 G.2.1 a0 u) → va_S A s.heap H locs → decode cX5_landTold pc = .ok (.ireturn, 1) → W p l e (headSpec wsX5_landTold rm_X5_landTold).room s m args below meth c H locs 0 0 (MQ below (QWr G (fun u => ce_X5 G.2.1 a0 u) out A) args s 0 0 A) (F0 m pc ls [.int v]) := fun pc v u H locs ls ho hP hD hS hd => W.iret (v := v) hx hb hr (fun t ht hW => ⟨⟨v, u, rfl, ob_pair ho, by first | (rw [ht]; exact hP) | (dsimp only; rw [ht]; exact hP), hD⟩, hS.F ht⟩) hS.2.2 hd
  generalize MQ below (QWr G (fun u => ce_X5 G.2.1 a0 u) out A) args s 0 0 A = Q at fin ⊢
  have blk39 : ∀ (fu39 : Nat), ∀ (S0 : ST_X5) (v2 : Int32) (v3 : Int32) (v4 : Int32), f_X5_landTold_b39 fu39 S0 v2 v3 v4 = some out → ∀ (H : Heap) (locs : List Loc), va_P G.1 vwCl (ce_X5 G.2.1 a0 S0) H → va_D A (ce_X5 G.2.1 a0 S0) → va_S A s.heap H locs → ∀ (ls : Array Slot), lv_has ls 5 [(0, .ref a0.1), (2, .int v2), (3, .int v3), (4, .int v4)] → W p l e (headSpec wsX5_landTold rm_X5_landTold).room s m args below meth c H locs 0 0 Q (F0 m 39 ls []) := by
    intro fu39
    induction fu39 with
    | zero => intro S0 v2 v3 v4 hf; exact ob_none hf
    | succ fu39 ih39 =>
      intro S0 v2 v3 v4 hf H locs hP hD hS ls hl
      rw [f_X5_landTold_b39] at hf
      have blk94 : ∀ (S0 : ST_X5) (v2 : Int32) (v3 : Int32) (v4 : Int32), f_X5_landTold_b94 (f_X5_landTold_b39 fu39) S0 v2 v3 v4 = some out → ∀ (H : Heap) (locs : List Loc), va_P G.1 vwCl (ce_X5 G.2.1 a0 S0) H → va_D A (ce_X5 G.2.1 a0 S0) → va_S A s.heap H locs → ∀ (ls : Array Slot), lv_has ls 5 [(0, .ref a0.1), (2, .int v2), (3, .int v3), (4, .int v4)] → W p l e (headSpec wsX5_landTold rm_X5_landTold).room s m args below meth c H locs 0 0 Q (F0 m 94 ls []) := by
        intro S0 v2 v3 v4 hf H locs hP hD hS ls hl
        rw [f_X5_landTold_b94] at hf
        refine lv_iinc (v := v4 + 1) (lv' := [(4, .int (v4 + 1)), (0, .ref a0.1), (2, .int v2), (3, .int v3)]) hx hb dX5_landTold_94 hl (k := 3) rfl rfl (by decide) rfl (fun ls hl => ?_)
        refine lv_goto (tgt := 39) hx hb dX5_landTold_97 (by decide) ?_
        exact ih39 _ _ _ _ hf _ _ hP hD hS _ (lv_sub hl [1, 2, 3, 0] rfl)
      refine lv_iload hx hb dX5_landTold_39 (lv_at hl 3 rfl) ?_
      refine lv_aload_n hx hb dX5_landTold_41 rfl (lv_at hl 0 rfl) ?_
      refine va_get (D := G.1) (ci := 5) (v := .ref a0.2.1.1) (C := RX5) (T := TX5) (N := 9) hx hb hts hinX5 hown hK hP 0 rfl rfl 0 (by decide) lk0 (fun _ h9 => h9) rfl dX5_landTold_42 ?_
      refine va_getN (D := G.1) (ci := 2) (v := .int S0.1.2) (C := RX2) (T := TX2) (N := 2) hx hb hts hinX2 hown hK hP 1 rfl rfl 1 (by decide) lk1 (fun _ h9 => h9) rfl dX5_landTold_45 ?_
      refine lv_icmp_ge (tgt := 100) hx hb dX5_landTold_48 (by decide) (fun c1 => ?_) (fun c1 => ?_)
      · replace hf := ob_pos c1 hf
        refine lv_aload_n hx hb dX5_landTold_100 rfl (lv_at hl 0 rfl) ?_
        refine va_get (D := G.1) (ci := 5) (v := .ref a0.2.2.1.1) (C := RX5) (T := TX5) (N := 9) hx hb hts hinX5 hown hK hP 0 rfl rfl 1 (by decide) lk2 (fun _ h9 => h9) rfl dX5_landTold_101 ?_
        refine va_getN (D := G.1) (ci := 4) (v := .ref a0.2.2.1.2.1.1) (C := RX4) (T := TX4) (N := 3) hx hb hts hinX4 hown hK hP 3 rfl rfl 0 (by decide) lk3 (fun _ h9 => h9) rfl dX5_landTold_104 ?_
        refine lv_aload_n hx hb dX5_landTold_107 rfl (lv_at hl 0 rfl) ?_
        refine va_get (D := G.1) (ci := 5) (v := .ref a0.2.2.2.2.1.1) (C := RX5) (T := TX5) (N := 9) hx hb hts hinX5 hown hK hP 0 rfl rfl 4 (by decide) lk4 (fun _ h9 => h9) rfl dX5_landTold_108 ?_
        obtain ⟨r2, hr2, hf⟩ := ob_bind hf
        have hPc : va_P G.1 vwCl (ce_X1 G.2.1 a0.2.2.1.2.1 S0.2.1.1 ++ ce_X1 G.2.1 a0.2.2.2.2.1 S0.2.2.2.2.1) H := hP.sub [4, 5, 6, 7, 8, 9, 27, 28, 29, 30, 31, 32] rfl
        have hDc : va_D A (ce_X1 G.2.1 a0.2.2.1.2.1 S0.2.1.1 ++ ce_X1 G.2.1 a0.2.2.2.2.1 S0.2.2.2.2.1) := hD.sub [4, 5, 6, 7, 8, 9, 27, 28, 29, 30, 31, 32] (by decide) rfl
        have hFc := va_free (wc := ce_X1 G.2.1 a0.2.2.1.2.1 S0.2.1.1 ++ ce_X1 G.2.1 a0.2.2.2.2.1 S0.2.2.2.2.1) hD hS hA [4, 5, 6, 7, 8, 9, 27, 28, 29, 30, 31, 32] rfl
        refine zc_wv (cf := (fun u => ce_X1 G.2.1 a0.2.2.1.2.1 u ++ ce_X1 G.2.1 a0.2.2.2.2.1 S0.2.2.2.2.1)) (ws' := ce_X5 G.2.1 a0 (S0.1, (r2, S0.2.1.2.1, S0.2.1.2.2), S0.2.2.1, S0.2.2.2.1, S0.2.2.2.2.1, S0.2.2.2.2.2.1, S0.2.2.2.2.2.2.1, S0.2.2.2.2.2.2.2.1, S0.2.2.2.2.2.2.2.2)) (va_runVN (As := [.ref a0.2.2.2.2.1.1]) (rest := []) ⟨hx, hb, hml, hown, hts⟩ (c_X1_copyFrom l G a0.2.2.1.2.1 a0.2.2.2.2.1 H.size S0.2.1.1 S0.2.2.2.2.1 _ hr2) (⟨va_cnB 1 hts gX5_landTold_X1_copyFrom_n194 rfl rfl rfl (hE.1 _ nw_28) lk5 (by decide +kernel) ⟨Nat.le_of_ble_eq_true rfl, Nat.le_of_ble_eq_true rfl⟩, lk6, lk7⟩) ⟨PcM.blind, va_recv hK hPc (ci := 1) (q0 := 0) rfl rfl, PcM.ok hPc hDc hK hE hS hFc⟩ rfl rfl hl.1 rfl (lv_room (Nat.le_of_ble_eq_true rfl)) dX5_landTold_111 ⟨Nat.le_refl _, Nat.le_refl _⟩) hP hD hS hA [4, 5, 6, 7, 8, 9, 27, 28, 29, 30, 31, 32] [0, 1, 2, 3, 10, 11, 12, 13, 14, 15, 16, 17, 18, 19, 20, 21, 22, 23, 24, 25, 26, 33, 34, 35, 36, 37, 38] [0, 1, 2, 3, 27, 28, 29, 30, 31, 32, 4, 5, 6, 7, 8, 9, 10, 11, 12, 13, 14, 15, 16, 17, 18, 19, 20, 33, 34, 35, 36, 37, 38, 21, 22, 23, 24, 25, 26] rfl rfl (by decide) (by decide) (by decide) rfl (fun H locs hP hD hS => ?_)
        refine lv_iload_n hx hb dX5_landTold_114 rfl (lv_at hl 1 rfl) ?_
        exact fin _ _ _ _ _ _ hf hP hD hS dX5_landTold_115
      · replace hf := ob_neg c1 hf
        refine lv_aload_n hx hb dX5_landTold_51 rfl (lv_at hl 0 rfl) ?_
        refine va_get (D := G.1) (ci := 5) (v := .ref a0.2.1.1) (C := RX5) (T := TX5) (N := 9) hx hb hts hinX5 hown hK hP 0 rfl rfl 0 (by decide) lk0 (fun _ h9 => h9) rfl dX5_landTold_52 ?_
        refine lv_iload hx hb dX5_landTold_55 (lv_at hl 3 rfl) ?_
        obtain ⟨r3, hr3, hf⟩ := ob_bind hf
        have hPc : va_P G.1 vwCl (ce_X2 G.2.1 a0.2.1 S0.1) H := hP.sub [1, 2] rfl
        have hDc : va_D A (ce_X2 G.2.1 a0.2.1 S0.1) := hD.sub [1, 2] (by decide) rfl
        have hFc := va_free (wc := ce_X2 G.2.1 a0.2.1 S0.1) hD hS hA [1, 2] rfl
        refine zc_ro (va_runVN (As := [.int v4]) (rest := []) ⟨hx, hb, hml, hown, hts⟩ (c_X2_sign l G a0.2.1 H.size S0.1 v4 _ hr3) (⟨va_cnB 1 hts gX5_landTold_X2_sign_n197 rfl rfl rfl (hE.1 _ nw_29) lk8 (by decide +kernel) ⟨Nat.le_of_ble_eq_true rfl, Nat.le_of_ble_eq_true rfl⟩, lk9, lk10⟩) ⟨PcM.blind, va_recv hK hPc (ci := 2) (q0 := 0) rfl rfl, PcM.ok hPc hDc hK hE hS hFc⟩ rfl rfl hl.1 rfl (lv_room (Nat.le_of_ble_eq_true rfl)) dX5_landTold_57 ⟨Nat.le_refl _, Nat.le_refl _⟩) hP hD hS hA [1, 2] rfl (fun H locs hP hS => ?_)
        refine lv_bipush (v := 59) hx hb dX5_landTold_60 (by decide) ?_
        refine lv_icmp_ne (tgt := 94) hx hb dX5_landTold_62 (by decide) (fun c4 => ?_) (fun c4 => ?_)
        · replace hf := ob_neg c4 hf
          exact blk94 _ _ _ _ hf _ _ hP hD hS _ (lv_sub hl [0, 1, 2, 3] rfl)
        · replace hf := ob_pos c4 hf
          refine lv_aload_n hx hb dX5_landTold_65 rfl (lv_at hl 0 rfl) ?_
          refine va_get (D := G.1) (ci := 5) (v := .ref a0.2.2.2.2.1.1) (C := RX5) (T := TX5) (N := 9) hx hb hts hinX5 hown hK hP 0 rfl rfl 4 (by decide) lk4 (fun _ h9 => h9) rfl dX5_landTold_66 ?_
          refine lv_aload_n hx hb dX5_landTold_69 rfl (lv_at hl 0 rfl) ?_
          refine va_get (D := G.1) (ci := 5) (v := .ref a0.2.1.1) (C := RX5) (T := TX5) (N := 9) hx hb hts hinX5 hown hK hP 0 rfl rfl 0 (by decide) lk0 (fun _ h9 => h9) rfl dX5_landTold_70 ?_
          refine lv_iload_n hx hb dX5_landTold_73 rfl (lv_at hl 2 rfl) ?_
          obtain ⟨r5, hr5, hf⟩ := ob_bind hf
          have hPc : va_P G.1 vwCl (ce_X1 G.2.1 a0.2.2.2.2.1 S0.2.2.2.2.1 ++ ce_X2 G.2.1 a0.2.1 S0.1) H := hP.sub [27, 28, 29, 30, 31, 32, 1, 2] rfl
          have hDc : va_D A (ce_X1 G.2.1 a0.2.2.2.2.1 S0.2.2.2.2.1 ++ ce_X2 G.2.1 a0.2.1 S0.1) := hD.sub [27, 28, 29, 30, 31, 32, 1, 2] (by decide) rfl
          have hFc := va_free (wc := ce_X1 G.2.1 a0.2.2.2.2.1 S0.2.2.2.2.1 ++ ce_X2 G.2.1 a0.2.1 S0.1) hD hS hA [27, 28, 29, 30, 31, 32, 1, 2] rfl
          refine zc_wr (cf := (fun u => ce_X1 G.2.1 a0.2.2.2.2.1 u ++ ce_X2 G.2.1 a0.2.1 S0.1)) (ws' := ce_X5 G.2.1 a0 (S0.1, S0.2.1, S0.2.2.1, S0.2.2.2.1, r5.2, S0.2.2.2.2.2.1, S0.2.2.2.2.2.2.1, S0.2.2.2.2.2.2.2.1, S0.2.2.2.2.2.2.2.2)) (va_runVN (As := [.ref a0.2.1.1, .int v3]) (rest := []) ⟨hx, hb, hml, hown, hts⟩ (c_X1_takes l G a0.2.2.2.2.1 a0.2.1 H.size S0.2.2.2.2.1 S0.1 v3 _ hr5) (⟨va_cnB 2 hts gX5_landTold_X1_takes_n200 rfl rfl rfl (hE.1 _ nw_30) lk5 (by decide +kernel) ⟨Nat.le_of_ble_eq_true rfl, Nat.le_of_ble_eq_true rfl⟩, lk11, lk12⟩) ⟨PcM.blind, va_recv hK hPc (ci := 1) (q0 := 0) rfl rfl, PcM.ok hPc hDc hK hE hS hFc⟩ rfl rfl hl.1 rfl (lv_room (Nat.le_of_ble_eq_true rfl)) dX5_landTold_74 ⟨Nat.le_refl _, Nat.le_refl _⟩) hP hD hS hA [27, 28, 29, 30, 31, 32, 1, 2] [0, 3, 4, 5, 6, 7, 8, 9, 10, 11, 12, 13, 14, 15, 16, 17, 18, 19, 20, 21, 22, 23, 24, 25, 26, 33, 34, 35, 36, 37, 38] [0, 37, 38, 1, 2, 3, 4, 5, 6, 7, 8, 9, 10, 11, 12, 13, 14, 15, 16, 17, 18, 19, 20, 21, 22, 23, 24, 31, 32, 33, 34, 35, 36, 25, 26, 27, 28, 29, 30] rfl rfl (by decide) (by decide) (by decide) rfl (fun H locs hP hD hS => ?_)
          refine lv_if_ne (tgt := 86) hx hb dX5_landTold_77 (by decide) (fun c6 => ?_) (fun c6 => ?_)
          · replace hf := ob_neg c6 hf
            refine lv_iinc (v := v2 + 1) (lv' := [(2, .int (v2 + 1)), (0, .ref a0.1), (3, .int v3), (4, .int v4)]) hx hb dX5_landTold_86 hl (k := 1) rfl rfl (by decide) rfl (fun ls hl => ?_)
            refine lv_iload hx hb dX5_landTold_89 (lv_at hl 3 rfl) ?_
            refine lv_iconst (v := 1) hx hb dX5_landTold_91 (by decide) ?_
            refine lv_iadd hx hb dX5_landTold_92 ?_
            refine lv_istore_n (lv' := [(3, .int (v4 + 1)), (2, .int (v2 + 1)), (0, .ref a0.1), (4, .int v4)]) hx hb dX5_landTold_93 rfl hl (by decide) rfl (fun ls hl => ?_)
            exact blk94 _ _ _ _ hf _ _ hP hD hS _ (lv_sub hl [2, 1, 0, 3] rfl)
          · replace hf := ob_pos c6 hf
            refine lv_sipush (v := (-2000)) hx hb dX5_landTold_80 (by decide) ?_
            refine lv_iload_n hx hb dX5_landTold_83 rfl (lv_at hl 2 rfl) ?_
            refine lv_isub hx hb dX5_landTold_84 ?_
            exact fin _ _ _ _ _ _ hf hP hD hS dX5_landTold_85
  have go : ∀ (H : Heap) (locs : List Loc), va_P G.1 vwCl (ce_X5 G.2.1 a0 S0) H → va_D A (ce_X5 G.2.1 a0 S0) → va_S A s.heap H locs → ∀ (ls : Array Slot), lv_has ls 5 [(0, .ref a0.1)] → W p l e (headSpec wsX5_landTold rm_X5_landTold).room s m args below meth c H locs 0 0 Q (F0 m 0 ls []) := by
    intro H locs hP hD hS ls hl
    refine lv_aload_n hx hb dX5_landTold_0 rfl (lv_at hl 0 rfl) ?_
    refine va_get (D := G.1) (ci := 5) (v := .ref a0.2.1.1) (C := RX5) (T := TX5) (N := 9) hx hb hts hinX5 hown hK hP 0 rfl rfl 0 (by decide) lk0 (fun _ h9 => h9) rfl dX5_landTold_1 ?_
    obtain ⟨r7, hr7, hf⟩ := ob_bind hf
    have hPc : va_P G.1 vwCl (ce_X2 G.2.1 a0.2.1 S0.1) H := hP.sub [1, 2] rfl
    have hDc : va_D A (ce_X2 G.2.1 a0.2.1 S0.1) := hD.sub [1, 2] (by decide) rfl
    have hFc := va_free (wc := ce_X2 G.2.1 a0.2.1 S0.1) hD hS hA [1, 2] rfl
    refine zc_ro (va_runVN (As := []) (rest := []) ⟨hx, hb, hml, hown, hts⟩ (c_X2_stuckPlace l G a0.2.1 H.size S0.1 _ hr7) (⟨va_cnB 0 hts gX5_landTold_X2_stuckPlace_n191 rfl rfl rfl (hE.1 _ nw_27) lk8 (by decide +kernel) ⟨Nat.le_of_ble_eq_true rfl, Nat.le_of_ble_eq_true rfl⟩, lk13, lk14⟩) ⟨PcM.blind, va_recv hK hPc (ci := 2) (q0 := 0) rfl rfl, PcM.ok hPc hDc hK hE hS hFc⟩ rfl rfl hl.1 rfl (lv_room (Nat.le_of_ble_eq_true rfl)) dX5_landTold_4 ⟨Nat.le_refl _, Nat.le_refl _⟩) hP hD hS hA [1, 2] rfl (fun H locs hP hS => ?_)
    refine lv_istore_n (lv' := [(1, .int r7), (0, .ref a0.1)]) hx hb dX5_landTold_7 rfl hl (by decide) rfl (fun ls hl => ?_)
    refine lv_iload_n hx hb dX5_landTold_8 rfl (lv_at hl 0 rfl) ?_
    refine lv_if_lt (tgt := 18) hx hb dX5_landTold_9 (by decide) (fun c8 => ?_) (fun c8 => ?_)
    · replace hf := ob_pos c8 hf
      refine lv_aload_n hx hb dX5_landTold_18 rfl (lv_at hl 1 rfl) ?_
      refine va_get (D := G.1) (ci := 5) (v := .ref a0.2.2.2.2.1.1) (C := RX5) (T := TX5) (N := 9) hx hb hts hinX5 hown hK hP 0 rfl rfl 4 (by decide) lk4 (fun _ h9 => h9) rfl dX5_landTold_19 ?_
      refine lv_aload_n hx hb dX5_landTold_22 rfl (lv_at hl 1 rfl) ?_
      refine va_get (D := G.1) (ci := 5) (v := .ref a0.2.2.1.1) (C := RX5) (T := TX5) (N := 9) hx hb hts hinX5 hown hK hP 0 rfl rfl 1 (by decide) lk2 (fun _ h9 => h9) rfl dX5_landTold_23 ?_
      refine va_getN (D := G.1) (ci := 4) (v := .ref a0.2.2.1.2.1.1) (C := RX4) (T := TX4) (N := 3) hx hb hts hinX4 hown hK hP 3 rfl rfl 0 (by decide) lk3 (fun _ h9 => h9) rfl dX5_landTold_26 ?_
      obtain ⟨r9, hr9, hf⟩ := ob_bind hf
      have hPc : va_P G.1 vwCl (ce_X1 G.2.1 a0.2.2.2.2.1 S0.2.2.2.2.1 ++ ce_X1 G.2.1 a0.2.2.1.2.1 S0.2.1.1) H := hP.sub [27, 28, 29, 30, 31, 32, 4, 5, 6, 7, 8, 9] rfl
      have hDc : va_D A (ce_X1 G.2.1 a0.2.2.2.2.1 S0.2.2.2.2.1 ++ ce_X1 G.2.1 a0.2.2.1.2.1 S0.2.1.1) := hD.sub [27, 28, 29, 30, 31, 32, 4, 5, 6, 7, 8, 9] (by decide) rfl
      have hFc := va_free (wc := ce_X1 G.2.1 a0.2.2.2.2.1 S0.2.2.2.2.1 ++ ce_X1 G.2.1 a0.2.2.1.2.1 S0.2.1.1) hD hS hA [27, 28, 29, 30, 31, 32, 4, 5, 6, 7, 8, 9] rfl
      refine zc_wv (cf := (fun u => ce_X1 G.2.1 a0.2.2.2.2.1 u ++ ce_X1 G.2.1 a0.2.2.1.2.1 S0.2.1.1)) (ws' := ce_X5 G.2.1 a0 (S0.1, S0.2.1, S0.2.2.1, S0.2.2.2.1, r9, S0.2.2.2.2.2.1, S0.2.2.2.2.2.2.1, S0.2.2.2.2.2.2.2.1, S0.2.2.2.2.2.2.2.2)) (va_runVN (As := [.ref a0.2.2.1.2.1.1]) (rest := []) ⟨hx, hb, hml, hown, hts⟩ (c_X1_copyFrom l G a0.2.2.2.2.1 a0.2.2.1.2.1 H.size S0.2.2.2.2.1 S0.2.1.1 _ hr9) (⟨va_cnB 1 hts gX5_landTold_X1_copyFrom_n194 rfl rfl rfl (hE.1 _ nw_28) lk5 (by decide +kernel) ⟨Nat.le_of_ble_eq_true rfl, Nat.le_of_ble_eq_true rfl⟩, lk6, lk7⟩) ⟨PcM.blind, va_recv hK hPc (ci := 1) (q0 := 0) rfl rfl, PcM.ok hPc hDc hK hE hS hFc⟩ rfl rfl hl.1 rfl (lv_room (Nat.le_of_ble_eq_true rfl)) dX5_landTold_29 ⟨Nat.le_refl _, Nat.le_refl _⟩) hP hD hS hA [27, 28, 29, 30, 31, 32, 4, 5, 6, 7, 8, 9] [0, 1, 2, 3, 10, 11, 12, 13, 14, 15, 16, 17, 18, 19, 20, 21, 22, 23, 24, 25, 26, 33, 34, 35, 36, 37, 38] [0, 1, 2, 3, 33, 34, 35, 36, 37, 38, 4, 5, 6, 7, 8, 9, 10, 11, 12, 13, 14, 15, 16, 17, 18, 19, 20, 27, 28, 29, 30, 31, 32, 21, 22, 23, 24, 25, 26] rfl rfl (by decide) (by decide) (by decide) rfl (fun H locs hP hD hS => ?_)
      refine lv_iconst (v := 0) hx hb dX5_landTold_32 (by decide) ?_
      refine lv_istore_n (lv' := [(2, .int 0), (1, .int r7), (0, .ref a0.1)]) hx hb dX5_landTold_33 rfl hl (by decide) rfl (fun ls hl => ?_)
      refine lv_iconst (v := 0) hx hb dX5_landTold_34 (by decide) ?_
      refine lv_istore_n (lv' := [(3, .int 0), (2, .int 0), (1, .int r7), (0, .ref a0.1)]) hx hb dX5_landTold_35 rfl hl (by decide) rfl (fun ls hl => ?_)
      refine lv_iconst (v := 0) hx hb dX5_landTold_36 (by decide) ?_
      refine lv_istore (lv' := [(4, .int 0), (3, .int 0), (2, .int 0), (1, .int r7), (0, .ref a0.1)]) hx hb dX5_landTold_37 hl (by decide) rfl (fun ls hl => ?_)
      exact blk39 4096 _ _ _ _ hf _ _ hP hD hS _ (lv_sub hl [4, 2, 1, 0] rfl)
    · replace hf := ob_neg c8 hf
      refine lv_sipush (v := (-1000)) hx hb dX5_landTold_12 (by decide) ?_
      refine lv_iload_n hx hb dX5_landTold_15 rfl (lv_at hl 0 rfl) ?_
      refine lv_isub hx hb dX5_landTold_16 ?_
      exact fin _ _ _ _ _ _ hf hP hD hS dX5_landTold_17
  exact go _ _ hP hD hS _ hl
abbrev rm_X5_land : Room := { frames := 9, cells := 0, slots := 0, locals := 209 }
set_option maxHeartbeats 4000000 in
set_option maxRecDepth 100000 in
theorem c_X5_land (l : Launch) (G : zG) (a0 : AT_X5) (sz : Nat) (S0 : ST_X5) (out : Int32 × ST_X5) (hf : f_X5_land S0 = some out) : Met l yX5_land wsX5_land rm_X5_land (PcM G (ce_X5 G.2.1 a0 S0) [.ref a0.1] sz) (QWr G (fun u => ce_X5 G.2.1 a0 u) out (va_A (ce_X5 G.2.1 a0 S0) sz)) 0 0 (va_A (ce_X5 G.2.1 a0 S0) sz) := by
  rw [f_X5_land] at hf
  refine Met.ofW (cc := cX5_land) (maxL := 2) (ret := (some .int)) (by decide) rfl ?_
  intro p e s m args below meth c s₁ B hml hv
  obtain ⟨hargs, hsz, hP, hK, hD0, hE⟩ := hv
  have hx := B.exec
  have hb := B.bytes
  have hr := B.returns
  have hts := atoms_spec (ws := wsX5_land) B.pre
  have hown : s.vm.findClass RX5 = some m.cls := findClass_of_methodNamed B.named
  have hlocks := B.notSynchronized
  subst hsz
  have hD := hD0.self (sz := s.heap.size)
  generalize hAe : va_A (ce_X5 G.2.1 a0 S0) s.heap.size = A at hD hE ⊢
  have hA : ∀ q : Nat, s.heap.size ≤ q → A q := fun q h => by rw [← hAe]; exact Or.inr h
  have hS : va_S A s.heap s.heap [] := va_S.rf
  have hl := lv_entry ([.ref a0.1]) (n := 2) (Nat.le_of_ble_eq_true rfl)
  have hent : entryFrame m args 2 = F0 m 0 ((lg_sl ([.ref a0.1]) ++ List.replicate (2 - (lg_sl ([.ref a0.1])).length) Slot.unset).toArray) [] := by rw [hargs, lg_entry_eq]
  rw [hent]
  clear hent
  generalize (lg_sl ([.ref a0.1]) ++ List.replicate (2 - (lg_sl ([.ref a0.1])).length) Slot.unset).toArray = ls at hl ⊢
  have hl : lv_has ls 2 [(0, .ref a0.1)] := hl
  have lk0 := hts (Cond.fieldLink RX5 10 "EnginesOnList" "letters" "LEnginesOnList$Letters;") (List.mem_of_getElem? (i := 1) rfl)
  have lk1 := va_Nw.use (A := args) rfl (hE.1 _ nw_0)
  have hinX5 : ∀ w ∈ wsX50, w ∈ wsX5_land := by decide +kernel
  have hinX2 : ∀ w ∈ wsX20, w ∈ wsX5_land := by decide +kernel
  have fin : ∀ (pc : Nat) (v : Int32) (u : ST_X5) (H : Heap) (locs : List Loc) (ls : Array Slot), some (v, u) = some out → va_P G.1 vwCl (ce_X5 G.2.1 a0 u) H → va_D A (ce_X5 G.2.1 a0 u) → va_S A s.heap H locs → decode cX5_land pc = .ok (.ireturn, 1) → W p l e (headSpec wsX5_land rm_X5_land).room s m args below meth c H locs 0 0 (MQ below (QWr G (fun u => ce_X5 G.2.1 a0 u) out A) args s 0 0 A) (F0 m pc ls [.int v]) := fun pc v u H locs ls ho hP hD hS hd => W.iret (v := v) hx hb hr (fun t ht hW => ⟨⟨v, u, rfl, ob_pair ho, by first | (rw [ht]; exact hP) | (dsimp only; rw [ht]; exact hP), hD⟩, hS.F ht⟩) hS.2.2 hd
  generalize MQ below (QWr G (fun u => ce_X5 G.2.1 a0 u) out A) args s 0 0 A = Q at fin ⊢
  have go : ∀ (H : Heap) (locs : List Loc), va_P G.1 vwCl (ce_X5 G.2.1 a0 S0) H → va_D A (ce_X5 G.2.1 a0 S0) → va_S A s.heap H locs → ∀ (ls : Array Slot), lv_has ls 2 [(0, .ref a0.1)] → W p l e (headSpec wsX5_land rm_X5_land).room s m args below meth c H locs 0 0 Q (F0 m 0 ls []) := by
    intro H locs hP hD hS ls hl
    refine lv_aload_n hx hb dX5_land_0 rfl (lv_at hl 0 rfl) ?_
    obtain ⟨r1, hr1, hf⟩ := ob_bind hf
    have hFc := va_free (wc := ce_X5 G.2.1 a0 S0) hD hS hA [0, 1, 2, 3, 4, 5, 6, 7, 8, 9, 10, 11, 12, 13, 14, 15, 16, 17, 18, 19, 20, 21, 22, 23, 24, 25, 26, 27, 28, 29, 30, 31, 32, 33, 34, 35, 36, 37, 38] rfl
    refine zc_wr (cf := (fun u => ce_X5 G.2.1 a0 u)) (ws' := ce_X5 G.2.1 a0 r1.2) (va_runV (As := []) (rest := []) ⟨hx, hb, hml, hown, hts⟩ (c_X5_landTold l G a0 H.size S0 _ hr1) (cwV 0 hts gX5_land_X5_landTold rfl rfl rfl (by decide +kernel) ⟨Nat.le_of_ble_eq_true rfl, Nat.le_of_ble_eq_true rfl⟩) ⟨PcM.blind, va_recv hK hP (ci := 5) (q0 := 0) rfl rfl, PcM.ok hP hD hK hE hS hFc⟩ rfl rfl hl.1 rfl (lv_room (Nat.le_of_ble_eq_true rfl)) dX5_land_1 ⟨Nat.le_refl _, Nat.le_refl _⟩) hP hD hS hA [0, 1, 2, 3, 4, 5, 6, 7, 8, 9, 10, 11, 12, 13, 14, 15, 16, 17, 18, 19, 20, 21, 22, 23, 24, 25, 26, 27, 28, 29, 30, 31, 32, 33, 34, 35, 36, 37, 38] [] [0, 1, 2, 3, 4, 5, 6, 7, 8, 9, 10, 11, 12, 13, 14, 15, 16, 17, 18, 19, 20, 21, 22, 23, 24, 25, 26, 27, 28, 29, 30, 31, 32, 33, 34, 35, 36, 37, 38] rfl rfl (by decide) (by decide) (by decide) rfl (fun H locs hP hD hS => ?_)
    refine lv_istore_n (lv' := [(1, .int r1.1), (0, .ref a0.1)]) hx hb dX5_land_4 rfl hl (by decide) rfl (fun ls hl => ?_)
    refine lv_aload_n hx hb dX5_land_5 rfl (lv_at hl 1 rfl) ?_
    refine va_get (D := G.1) (ci := 5) (v := .ref a0.2.1.1) (C := RX5) (T := TX5) (N := 9) hx hb hts hinX5 hown hK hP 0 rfl rfl 0 (by decide) lk0 (fun _ h9 => h9) rfl dX5_land_6 ?_
    refine lv_iconst (v := 0) hx hb dX5_land_9 (by decide) ?_
    refine va_putN (D := G.1) (ci := 2) (v := .int 0) (ty := .int) (C := RX2) (T := TX2) (N := 2) hx hb hts hinX2 tyX2 tyX2_ok nmX2 hown hK hP hD hS 1 rfl rfl 1 (by decide) lk1 (fun _ h9 => h9) rfl (by decide +kernel) rfl rfl (Nat.le_of_ble_eq_true rfl) dX5_land_10 (fun H locs hP hD hS => ?_)
    have hP : va_P G.1 vwCl (ce_X5 G.2.1 a0 ((r1.2.1.1, 0), r1.2.2.1, r1.2.2.2.1, r1.2.2.2.2.1, r1.2.2.2.2.2.1, r1.2.2.2.2.2.2.1, r1.2.2.2.2.2.2.2.1, r1.2.2.2.2.2.2.2.2.1, r1.2.2.2.2.2.2.2.2.2)) H := hP
    have hD : va_D A (ce_X5 G.2.1 a0 ((r1.2.1.1, 0), r1.2.2.1, r1.2.2.2.1, r1.2.2.2.2.1, r1.2.2.2.2.2.1, r1.2.2.2.2.2.2.1, r1.2.2.2.2.2.2.2.1, r1.2.2.2.2.2.2.2.2.1, r1.2.2.2.2.2.2.2.2.2)) := hD
    refine lv_iload_n hx hb dX5_land_13 rfl (lv_at hl 0 rfl) ?_
    exact fin _ _ _ _ _ _ hf hP hD hS dX5_land_14
  exact go _ _ hP hD hS _ hl
abbrev rm_X5_engine : Room := { frames := 4, cells := 0, slots := 0, locals := 88 }
set_option maxHeartbeats 4000000 in
set_option maxRecDepth 100000 in
theorem c_X5_engine (l : Launch) (G : zG) (a0 : AT_X5) (sz : Nat) (S0 : ST_X5) (p1 : Int32) (p2 : Int32) (out : Int32 × ST_X5) (hf : f_X5_engine S0 p1 p2 = some out) : Met l yX5_engine wsX5_engine rm_X5_engine (PcM G (ce_X5 G.2.1 a0 S0) [.ref a0.1, .int p1, .int p2] sz) (QWr G (fun u => ce_X5 G.2.1 a0 u) out (va_A (ce_X5 G.2.1 a0 S0) sz)) 0 0 (va_A (ce_X5 G.2.1 a0 S0) sz) := by
  rw [f_X5_engine] at hf
  refine Met.ofW (cc := cX5_engine) (maxL := 4) (ret := (some .int)) (by decide) rfl ?_
  intro p e s m args below meth c s₁ B hml hv
  obtain ⟨hargs, hsz, hP, hK, hD0, hE⟩ := hv
  have hx := B.exec
  have hb := B.bytes
  have hr := B.returns
  have hts := atoms_spec (ws := wsX5_engine) B.pre
  have hown : s.vm.findClass RX5 = some m.cls := findClass_of_methodNamed B.named
  have hlocks := B.notSynchronized
  subst hsz
  have hD := hD0.self (sz := s.heap.size)
  generalize hAe : va_A (ce_X5 G.2.1 a0 S0) s.heap.size = A at hD hE ⊢
  have hA : ∀ q : Nat, s.heap.size ≤ q → A q := fun q h => by rw [← hAe]; exact Or.inr h
  have hS : va_S A s.heap s.heap [] := va_S.rf
  have hl := lv_entry ([.ref a0.1, .int p1, .int p2]) (n := 4) (Nat.le_of_ble_eq_true rfl)
  have hent : entryFrame m args 4 = F0 m 0 ((lg_sl ([.ref a0.1, .int p1, .int p2]) ++ List.replicate (4 - (lg_sl ([.ref a0.1, .int p1, .int p2])).length) Slot.unset).toArray) [] := by rw [hargs, lg_entry_eq]
  rw [hent]
  clear hent
  generalize (lg_sl ([.ref a0.1, .int p1, .int p2]) ++ List.replicate (4 - (lg_sl ([.ref a0.1, .int p1, .int p2])).length) Slot.unset).toArray = ls at hl ⊢
  have hl : lv_has ls 4 [(0, .ref a0.1), (1, .int p1), (2, .int p2)] := hl
  have lk0 := hts (Cond.fieldLink RX5 19 "EnginesOnList" "now" "LEnginesOnList$World;") (List.mem_of_getElem? (i := 1) rfl)
  have lk1 := va_Nw.use (A := args) rfl (hE.1 _ nw_14)
  have lk2 := hts (Cond.initialized RX1) (List.mem_of_getElem? (i := 3) rfl)
  have lk3 := hts (Cond.instanceMethod yX1_knows) (List.mem_of_getElem? (i := 2) rfl)
  have lk4 := hts (Cond.selects RX1 yX1_knows yX1_knows) (List.mem_of_getElem? (i := 4) rfl)
  have lk5 := hts (Cond.instanceMethod yX1_number) (List.mem_of_getElem? (i := 13) rfl)
  have lk6 := hts (Cond.selects RX1 yX1_number yX1_number) (List.mem_of_getElem? (i := 14) rfl)
  have lk7 := va_Nw.use (A := args) rfl (hE.1 _ nw_1)
  have lk8 := va_Nw.use (A := args) rfl (hE.1 _ nw_2)
  have lk9 := va_Nw.use (A := args) rfl (hE.1 _ nw_3)
  have lk10 := va_Nw.use (A := args) rfl (hE.1 _ nw_6)
  have lk11 := va_Nw.use (A := args) rfl (hE.1 _ nw_7)
  have lk12 := hts (Cond.instanceMethod yX1_isOn) (List.mem_of_getElem? (i := 18) rfl)
  have lk13 := hts (Cond.selects RX1 yX1_isOn yX1_isOn) (List.mem_of_getElem? (i := 19) rfl)
  have hinX5 : ∀ w ∈ wsX50, w ∈ wsX5_engine := by decide +kernel
  have hinX4 : ∀ w ∈ wsX40, w ∈ wsX5_engine := by decide +kernel
  have hinX1 : ∀ w ∈ wsX10, w ∈ wsX5_engine := by decide +kernel
  have fin : ∀ (pc : Nat) (v : Int32) (u : ST_X5) (H : Heap) (locs : List Loc) (ls : Array Slot), some (v, u) = some out → va_P G.1 vwCl (ce_X5 G.2.1 a0 u) H → va_D A (ce_X5 G.2.1 a0 u) → va_S A s.heap H locs → decode cX5_engine pc = .ok (.ireturn, 1) → W p l e (headSpec wsX5_engine rm_X5_engine).room s m args below meth c H locs 0 0 (MQ below (QWr G (fun u => ce_X5 G.2.1 a0 u) out A) args s 0 0 A) (F0 m pc ls [.int v]) := fun pc v u H locs ls ho hP hD hS hd => W.iret (v := v) hx hb hr (fun t ht hW => ⟨⟨v, u, rfl, ob_pair ho, by first | (rw [ht]; exact hP) | (dsimp only; rw [ht]; exact hP), hD⟩, hS.F ht⟩) hS.2.2 hd
  generalize MQ below (QWr G (fun u => ce_X5 G.2.1 a0 u) out A) args s 0 0 A = Q at fin ⊢
  have go : ∀ (H : Heap) (locs : List Loc), va_P G.1 vwCl (ce_X5 G.2.1 a0 S0) H → va_D A (ce_X5 G.2.1 a0 S0) → va_S A s.heap H locs → ∀ (ls : Array Slot), lv_has ls 4 [(0, .ref a0.1), (1, .int p1), (2, .int p2)] → W p l e (headSpec wsX5_engine rm_X5_engine).room s m args below meth c H locs 0 0 Q (F0 m 0 ls []) := by
    intro H locs hP hD hS ls hl
    refine lv_aload_n hx hb dX5_engine_0 rfl (lv_at hl 0 rfl) ?_
    refine va_get (D := G.1) (ci := 5) (v := .ref a0.2.2.1.1) (C := RX5) (T := TX5) (N := 9) hx hb hts hinX5 hown hK hP 0 rfl rfl 1 (by decide) lk0 (fun _ h9 => h9) rfl dX5_engine_1 ?_
    refine va_getN (D := G.1) (ci := 4) (v := .ref a0.2.2.1.2.1.1) (C := RX4) (T := TX4) (N := 3) hx hb hts hinX4 hown hK hP 3 rfl rfl 0 (by decide) lk1 (fun _ h9 => h9) rfl dX5_engine_4 ?_
    refine lv_astore_n (lv' := [(3, .ref a0.2.2.1.2.1.1), (0, .ref a0.1), (1, .int p1), (2, .int p2)]) hx hb dX5_engine_7 rfl hl (by decide) rfl (fun ls hl => ?_)
    refine lv_aload_n hx hb dX5_engine_8 rfl (lv_at hl 0 rfl) ?_
    refine lv_iload_n hx hb dX5_engine_9 rfl (lv_at hl 2 rfl) ?_
    obtain ⟨r1, hr1, hf⟩ := ob_bind hf
    have hPc : va_P G.1 vwCl (ce_X1 G.2.1 a0.2.2.1.2.1 S0.2.1.1) H := hP.sub [4, 5, 6, 7, 8, 9] rfl
    have hDc : va_D A (ce_X1 G.2.1 a0.2.2.1.2.1 S0.2.1.1) := hD.sub [4, 5, 6, 7, 8, 9] (by decide) rfl
    have hFc := va_free (wc := ce_X1 G.2.1 a0.2.2.1.2.1 S0.2.1.1) hD hS hA [4, 5, 6, 7, 8, 9] rfl
    refine zc_ro (va_runVN (As := [.int p1]) (rest := []) ⟨hx, hb, hml, hown, hts⟩ (c_X1_knows l G a0.2.2.1.2.1 H.size S0.2.1.1 p1 _ hr1) (⟨va_cnB 1 hts gX5_engine_X1_knows_n66 rfl rfl rfl (hE.1 _ nw_36) lk2 (by decide +kernel) ⟨Nat.le_of_ble_eq_true rfl, Nat.le_of_ble_eq_true rfl⟩, lk3, lk4⟩) ⟨PcM.blind, va_recv hK hPc (ci := 1) (q0 := 0) rfl rfl, PcM.ok hPc hDc hK hE hS hFc⟩ rfl rfl hl.1 rfl (lv_room (Nat.le_of_ble_eq_true rfl)) dX5_engine_10 ⟨Nat.le_refl _, Nat.le_refl _⟩) hP hD hS hA [4, 5, 6, 7, 8, 9] rfl (fun H locs hP hS => ?_)
    refine lv_if_ne (tgt := 22) hx hb dX5_engine_13 (by decide) (fun c2 => ?_) (fun c2 => ?_)
    · replace hf := ob_neg c2 hf
      refine lv_iload_n hx hb dX5_engine_22 rfl (lv_at hl 3 rfl) ?_
      by_cases c3_0 : p2 = 0
      · replace hf := ob_pos c3_0 hf
        refine lv_tableIn (x := p2) (off := 41) (tgt := 64) hx hb dX5_engine_23 (by rw [c3_0]; decide) (by rw [c3_0]; decide) (by rw [c3_0]; decide) (by decide) ?_
        refine lv_aload_n hx hb dX5_engine_64 rfl (lv_at hl 0 rfl) ?_
        refine lv_iload_n hx hb dX5_engine_65 rfl (lv_at hl 2 rfl) ?_
        obtain ⟨r4, hr4, hf⟩ := ob_bind hf
        have hPc : va_P G.1 vwCl (ce_X1 G.2.1 a0.2.2.1.2.1 S0.2.1.1) H := hP.sub [4, 5, 6, 7, 8, 9] rfl
        have hDc : va_D A (ce_X1 G.2.1 a0.2.2.1.2.1 S0.2.1.1) := hD.sub [4, 5, 6, 7, 8, 9] (by decide) rfl
        have hFc := va_free (wc := ce_X1 G.2.1 a0.2.2.1.2.1 S0.2.1.1) hD hS hA [4, 5, 6, 7, 8, 9] rfl
        refine zc_ro (va_runVN (As := [.int p1]) (rest := []) ⟨hx, hb, hml, hown, hts⟩ (c_X1_number l G a0.2.2.1.2.1 H.size S0.2.1.1 p1 _ hr4) (⟨va_cnB 1 hts gX5_engine_X1_number_n69 rfl rfl rfl (hE.1 _ nw_37) lk2 (by decide +kernel) ⟨Nat.le_of_ble_eq_true rfl, Nat.le_of_ble_eq_true rfl⟩, lk5, lk6⟩) ⟨PcM.blind, va_recv hK hPc (ci := 1) (q0 := 0) rfl rfl, PcM.ok hPc hDc hK hE hS hFc⟩ rfl rfl hl.1 rfl (lv_room (Nat.le_of_ble_eq_true rfl)) dX5_engine_66 ⟨Nat.le_refl _, Nat.le_refl _⟩) hP hD hS hA [4, 5, 6, 7, 8, 9] rfl (fun H locs hP hS => ?_)
        exact fin _ _ _ _ _ _ hf hP hD hS dX5_engine_69
      · replace hf := ob_neg c3_0 hf
        by_cases c3_1 : p2 = 1
        · replace hf := ob_pos c3_1 hf
          refine lv_tableIn (x := p2) (off := 47) (tgt := 70) hx hb dX5_engine_23 (by rw [c3_1]; decide) (by rw [c3_1]; decide) (by rw [c3_1]; decide) (by decide) ?_
          refine lv_aload_n hx hb dX5_engine_70 rfl (lv_at hl 0 rfl) ?_
          refine va_getN (D := G.1) (ci := 1) (v := .ref a0.2.2.1.2.1.2.2.1) (C := RX1) (T := TX1) (N := 9) hx hb hts hinX1 hown hK hP 4 rfl rfl 1 (by decide) lk7 (fun _ h9 => h9) rfl dX5_engine_71 ?_
          refine lv_iload_n hx hb dX5_engine_74 rfl (lv_at hl 2 rfl) ?_
          obtain ⟨hg5, hf⟩ := ob_guard hf
          refine va_iald hx hb hK hP 6 0 rfl rfl hg5 dX5_engine_75 ?_
          exact fin _ _ _ _ _ _ hf hP hD hS dX5_engine_76
        · replace hf := ob_neg c3_1 hf
          by_cases c3_2 : p2 = 2
          · replace hf := ob_pos c3_2 hf
            refine lv_tableIn (x := p2) (off := 54) (tgt := 77) hx hb dX5_engine_23 (by rw [c3_2]; decide) (by rw [c3_2]; decide) (by rw [c3_2]; decide) (by decide) ?_
            refine lv_aload_n hx hb dX5_engine_77 rfl (lv_at hl 0 rfl) ?_
            refine va_getN (D := G.1) (ci := 1) (v := .ref a0.2.2.1.2.1.2.2.2.1) (C := RX1) (T := TX1) (N := 9) hx hb hts hinX1 hown hK hP 4 rfl rfl 2 (by decide) lk8 (fun _ h9 => h9) rfl dX5_engine_78 ?_
            refine lv_iload_n hx hb dX5_engine_81 rfl (lv_at hl 2 rfl) ?_
            obtain ⟨hg6, hf⟩ := ob_guard hf
            refine va_iald hx hb hK hP 7 0 rfl rfl hg6 dX5_engine_82 ?_
            exact fin _ _ _ _ _ _ hf hP hD hS dX5_engine_83
          · replace hf := ob_neg c3_2 hf
            by_cases c3_3 : p2 = 3
            · replace hf := ob_pos c3_3 hf
              refine lv_tableIn (x := p2) (off := 61) (tgt := 84) hx hb dX5_engine_23 (by rw [c3_3]; decide) (by rw [c3_3]; decide) (by rw [c3_3]; decide) (by decide) ?_
              refine lv_aload_n hx hb dX5_engine_84 rfl (lv_at hl 0 rfl) ?_
              refine va_getN (D := G.1) (ci := 1) (v := .ref a0.2.2.1.2.1.2.2.2.2.1) (C := RX1) (T := TX1) (N := 9) hx hb hts hinX1 hown hK hP 4 rfl rfl 3 (by decide) lk9 (fun _ h9 => h9) rfl dX5_engine_85 ?_
              refine lv_iload_n hx hb dX5_engine_88 rfl (lv_at hl 2 rfl) ?_
              obtain ⟨hg7, hf⟩ := ob_guard hf
              refine va_iald hx hb hK hP 8 0 rfl rfl hg7 dX5_engine_89 ?_
              exact fin _ _ _ _ _ _ hf hP hD hS dX5_engine_90
            · replace hf := ob_neg c3_3 hf
              by_cases c3_4 : p2 = 4
              · replace hf := ob_pos c3_4 hf
                refine lv_tableIn (x := p2) (off := 68) (tgt := 91) hx hb dX5_engine_23 (by rw [c3_4]; decide) (by rw [c3_4]; decide) (by rw [c3_4]; decide) (by decide) ?_
                refine lv_aload_n hx hb dX5_engine_91 rfl (lv_at hl 0 rfl) ?_
                refine va_getN (D := G.1) (ci := 1) (v := .int S0.2.1.1.2.2.2.2.2.2.2.1) (C := RX1) (T := TX1) (N := 9) hx hb hts hinX1 hown hK hP 4 rfl rfl 7 (by decide) lk10 (fun _ h9 => h9) rfl dX5_engine_92 ?_
                refine lv_iload_n hx hb dX5_engine_95 rfl (lv_at hl 2 rfl) ?_
                refine lv_ishr hx hb dX5_engine_96 ?_
                refine lv_iconst (v := 1) hx hb dX5_engine_97 (by decide) ?_
                refine lv_iand hx hb dX5_engine_98 ?_
                exact fin _ _ _ _ _ _ hf hP hD hS dX5_engine_99
              · replace hf := ob_neg c3_4 hf
                by_cases c3_5 : p2 = 5
                · replace hf := ob_pos c3_5 hf
                  refine lv_tableIn (x := p2) (off := 77) (tgt := 100) hx hb dX5_engine_23 (by rw [c3_5]; decide) (by rw [c3_5]; decide) (by rw [c3_5]; decide) (by decide) ?_
                  refine lv_aload_n hx hb dX5_engine_100 rfl (lv_at hl 0 rfl) ?_
                  refine va_getN (D := G.1) (ci := 1) (v := .int S0.2.1.1.2.2.2.2.2.2.2.2) (C := RX1) (T := TX1) (N := 9) hx hb hts hinX1 hown hK hP 4 rfl rfl 8 (by decide) lk11 (fun _ h9 => h9) rfl dX5_engine_101 ?_
                  refine lv_iload_n hx hb dX5_engine_104 rfl (lv_at hl 2 rfl) ?_
                  refine lv_ishr hx hb dX5_engine_105 ?_
                  refine lv_iconst (v := 1) hx hb dX5_engine_106 (by decide) ?_
                  refine lv_iand hx hb dX5_engine_107 ?_
                  exact fin _ _ _ _ _ _ hf hP hD hS dX5_engine_108
                · replace hf := ob_neg c3_5 hf
                  by_cases c3_6 : p2 = 6
                  · replace hf := ob_pos c3_6 hf
                    refine lv_tableIn (x := p2) (off := 86) (tgt := 109) hx hb dX5_engine_23 (by rw [c3_6]; decide) (by rw [c3_6]; decide) (by rw [c3_6]; decide) (by decide) ?_
                    refine lv_aload_n hx hb dX5_engine_109 rfl (lv_at hl 0 rfl) ?_
                    refine lv_aload_n hx hb dX5_engine_110 rfl (lv_at hl 0 rfl) ?_
                    refine va_getN (D := G.1) (ci := 1) (v := .int S0.2.1.1.2.2.2.2.2.2.2.1) (C := RX1) (T := TX1) (N := 9) hx hb hts hinX1 hown hK hP 4 rfl rfl 7 (by decide) lk10 (fun _ h9 => h9) rfl dX5_engine_111 ?_
                    refine lv_iload_n hx hb dX5_engine_114 rfl (lv_at hl 2 rfl) ?_
                    obtain ⟨r8, hr8, hf⟩ := ob_bind hf
                    have hPc : va_P G.1 vwCl (ce_X1 G.2.1 a0.2.2.1.2.1 S0.2.1.1) H := hP.sub [4, 5, 6, 7, 8, 9] rfl
                    have hDc : va_D A (ce_X1 G.2.1 a0.2.2.1.2.1 S0.2.1.1) := hD.sub [4, 5, 6, 7, 8, 9] (by decide) rfl
                    have hFc := va_free (wc := ce_X1 G.2.1 a0.2.2.1.2.1 S0.2.1.1) hD hS hA [4, 5, 6, 7, 8, 9] rfl
                    refine zc_ro (va_runVN (As := [.int S0.2.1.1.2.2.2.2.2.2.2.1, .int p1]) (rest := []) ⟨hx, hb, hml, hown, hts⟩ (c_X1_isOn l G a0.2.2.1.2.1 H.size S0.2.1.1 S0.2.1.1.2.2.2.2.2.2.2.1 p1 _ hr8) (⟨va_cnB 2 hts gX5_engine_X1_isOn_n87 rfl rfl rfl (hE.1 _ nw_38) lk2 (by decide +kernel) ⟨Nat.le_of_ble_eq_true rfl, Nat.le_of_ble_eq_true rfl⟩, lk12, lk13⟩) ⟨PcM.blind, va_recv hK hPc (ci := 1) (q0 := 0) rfl rfl, PcM.ok hPc hDc hK hE hS hFc⟩ rfl rfl hl.1 rfl (lv_room (Nat.le_of_ble_eq_true rfl)) dX5_engine_115 ⟨Nat.le_refl _, Nat.le_refl _⟩) hP hD hS hA [4, 5, 6, 7, 8, 9] rfl (fun H locs hP hS => ?_)
                    refine lv_if_eq (tgt := 125) hx hb dX5_engine_118 (by decide) (fun c9 => ?_) (fun c9 => ?_)
                    · replace hf := ob_pos c9 hf
                      refine lv_iconst (v := 0) hx hb dX5_engine_125 (by decide) ?_
                      exact fin _ _ _ _ _ _ hf hP hD hS dX5_engine_126
                    · replace hf := ob_neg c9 hf
                      refine lv_iconst (v := 1) hx hb dX5_engine_121 (by decide) ?_
                      refine lv_goto (tgt := 126) hx hb dX5_engine_122 (by decide) ?_
                      exact fin _ _ _ _ _ _ hf hP hD hS dX5_engine_126
                  · replace hf := ob_neg c3_6 hf
                    have tc3_0 := lv_neT (a := 0) c3_0 rfl
                    have tc3_1 := lv_neT (a := 1) c3_1 rfl
                    have tc3_2 := lv_neT (a := 2) c3_2 rfl
                    have tc3_3 := lv_neT (a := 3) c3_3 rfl
                    have tc3_4 := lv_neT (a := 4) c3_4 rfl
                    have tc3_5 := lv_neT (a := 5) c3_5 rfl
                    have tc3_6 := lv_neT (a := 6) c3_6 rfl
                    refine lv_tableOut (x := p2) (tgt := 127) hx hb dX5_engine_23 (by omega) (by decide) ?_
                    refine lv_aload_n hx hb dX5_engine_127 rfl (lv_at hl 1 rfl) ?_
                    refine lv_bipush (v := (-2)) hx hb dX5_engine_128 (by decide) ?_
                    obtain ⟨r10, hr10, hf⟩ := ob_bind hf
                    have hFc := va_free (wc := ce_X5 G.2.1 a0 S0) hD hS hA [0, 1, 2, 3, 4, 5, 6, 7, 8, 9, 10, 11, 12, 13, 14, 15, 16, 17, 18, 19, 20, 21, 22, 23, 24, 25, 26, 27, 28, 29, 30, 31, 32, 33, 34, 35, 36, 37, 38] rfl
                    refine zc_wr (cf := (fun u => ce_X5 G.2.1 a0 u)) (ws' := ce_X5 G.2.1 a0 r10.2) (va_runV (As := [.int (-2)]) (rest := []) ⟨hx, hb, hml, hown, hts⟩ (c_X5_refuse l G a0 H.size S0 (-2) _ hr10) (cwV 1 hts gX5_engine_X5_refuse rfl rfl rfl (by decide +kernel) ⟨Nat.le_of_ble_eq_true rfl, Nat.le_of_ble_eq_true rfl⟩) ⟨PcM.blind, va_recv hK hP (ci := 5) (q0 := 0) rfl rfl, PcM.ok hP hD hK hE hS hFc⟩ rfl rfl hl.1 rfl (lv_room (Nat.le_of_ble_eq_true rfl)) dX5_engine_130 ⟨Nat.le_refl _, Nat.le_refl _⟩) hP hD hS hA [0, 1, 2, 3, 4, 5, 6, 7, 8, 9, 10, 11, 12, 13, 14, 15, 16, 17, 18, 19, 20, 21, 22, 23, 24, 25, 26, 27, 28, 29, 30, 31, 32, 33, 34, 35, 36, 37, 38] [] [0, 1, 2, 3, 4, 5, 6, 7, 8, 9, 10, 11, 12, 13, 14, 15, 16, 17, 18, 19, 20, 21, 22, 23, 24, 25, 26, 27, 28, 29, 30, 31, 32, 33, 34, 35, 36, 37, 38] rfl rfl (by decide) (by decide) (by decide) rfl (fun H locs hP hD hS => ?_)
                    exact fin _ _ _ _ _ _ hf hP hD hS dX5_engine_133
    · replace hf := ob_pos c2 hf
      refine lv_aload_n hx hb dX5_engine_16 rfl (lv_at hl 1 rfl) ?_
      refine lv_iconst (v := (-1)) hx hb dX5_engine_17 (by decide) ?_
      obtain ⟨r11, hr11, hf⟩ := ob_bind hf
      have hFc := va_free (wc := ce_X5 G.2.1 a0 S0) hD hS hA [0, 1, 2, 3, 4, 5, 6, 7, 8, 9, 10, 11, 12, 13, 14, 15, 16, 17, 18, 19, 20, 21, 22, 23, 24, 25, 26, 27, 28, 29, 30, 31, 32, 33, 34, 35, 36, 37, 38] rfl
      refine zc_wr (cf := (fun u => ce_X5 G.2.1 a0 u)) (ws' := ce_X5 G.2.1 a0 r11.2) (va_runV (As := [.int (-1)]) (rest := []) ⟨hx, hb, hml, hown, hts⟩ (c_X5_refuse l G a0 H.size S0 (-1) _ hr11) (cwV 1 hts gX5_engine_X5_refuse rfl rfl rfl (by decide +kernel) ⟨Nat.le_of_ble_eq_true rfl, Nat.le_of_ble_eq_true rfl⟩) ⟨PcM.blind, va_recv hK hP (ci := 5) (q0 := 0) rfl rfl, PcM.ok hP hD hK hE hS hFc⟩ rfl rfl hl.1 rfl (lv_room (Nat.le_of_ble_eq_true rfl)) dX5_engine_18 ⟨Nat.le_refl _, Nat.le_refl _⟩) hP hD hS hA [0, 1, 2, 3, 4, 5, 6, 7, 8, 9, 10, 11, 12, 13, 14, 15, 16, 17, 18, 19, 20, 21, 22, 23, 24, 25, 26, 27, 28, 29, 30, 31, 32, 33, 34, 35, 36, 37, 38] [] [0, 1, 2, 3, 4, 5, 6, 7, 8, 9, 10, 11, 12, 13, 14, 15, 16, 17, 18, 19, 20, 21, 22, 23, 24, 25, 26, 27, 28, 29, 30, 31, 32, 33, 34, 35, 36, 37, 38] rfl rfl (by decide) (by decide) (by decide) rfl (fun H locs hP hD hS => ?_)
      exact fin _ _ _ _ _ _ hf hP hD hS dX5_engine_21
  exact go _ _ hP hD hS _ hl
abbrev rm_X5_turn : Room := { frames := 3, cells := 0, slots := 0, locals := 67 }
set_option maxHeartbeats 4000000 in
set_option maxRecDepth 100000 in
theorem c_X5_turn (l : Launch) (G : zG) (a0 : AT_X5) (sz : Nat) (S0 : ST_X5) (p1 : Int32) (p2 : Int32) (out : Int32 × ST_X5) (hf : f_X5_turn S0 p1 p2 = some out) : Met l yX5_turn wsX5_turn rm_X5_turn (PcM G (ce_X5 G.2.1 a0 S0) [.ref a0.1, .int p1, .int p2] sz) (QWr G (fun u => ce_X5 G.2.1 a0 u) out (va_A (ce_X5 G.2.1 a0 S0) sz)) 0 0 (va_A (ce_X5 G.2.1 a0 S0) sz) := by
  rw [f_X5_turn] at hf
  refine Met.ofW (cc := cX5_turn) (maxL := 3) (ret := (some .int)) (by decide) rfl ?_
  intro p e s m args below meth c s₁ B hml hv
  obtain ⟨hargs, hsz, hP, hK, hD0, hE⟩ := hv
  have hx := B.exec
  have hb := B.bytes
  have hr := B.returns
  have hts := atoms_spec (ws := wsX5_turn) B.pre
  have hown : s.vm.findClass RX5 = some m.cls := findClass_of_methodNamed B.named
  have hlocks := B.notSynchronized
  subst hsz
  have hD := hD0.self (sz := s.heap.size)
  generalize hAe : va_A (ce_X5 G.2.1 a0 S0) s.heap.size = A at hD hE ⊢
  have hA : ∀ q : Nat, s.heap.size ≤ q → A q := fun q h => by rw [← hAe]; exact Or.inr h
  have hS : va_S A s.heap s.heap [] := va_S.rf
  have hl := lv_entry ([.ref a0.1, .int p1, .int p2]) (n := 3) (Nat.le_of_ble_eq_true rfl)
  have hent : entryFrame m args 3 = F0 m 0 ((lg_sl ([.ref a0.1, .int p1, .int p2]) ++ List.replicate (3 - (lg_sl ([.ref a0.1, .int p1, .int p2])).length) Slot.unset).toArray) [] := by rw [hargs, lg_entry_eq]
  rw [hent]
  clear hent
  generalize (lg_sl ([.ref a0.1, .int p1, .int p2]) ++ List.replicate (3 - (lg_sl ([.ref a0.1, .int p1, .int p2])).length) Slot.unset).toArray = ls at hl ⊢
  have hl : lv_has ls 3 [(0, .ref a0.1), (1, .int p1), (2, .int p2)] := hl
  have lk0 := hts (Cond.fieldLink RX5 19 "EnginesOnList" "now" "LEnginesOnList$World;") (List.mem_of_getElem? (i := 1) rfl)
  have lk1 := va_Nw.use (A := args) rfl (hE.1 _ nw_14)
  have lk2 := hts (Cond.initialized RX1) (List.mem_of_getElem? (i := 3) rfl)
  have lk3 := hts (Cond.instanceMethod yX1_knows) (List.mem_of_getElem? (i := 2) rfl)
  have lk4 := hts (Cond.selects RX1 yX1_knows yX1_knows) (List.mem_of_getElem? (i := 4) rfl)
  have lk5 := hts (Cond.instanceMethod yX1_turnOf) (List.mem_of_getElem? (i := 13) rfl)
  have lk6 := hts (Cond.selects RX1 yX1_turnOf yX1_turnOf) (List.mem_of_getElem? (i := 14) rfl)
  have hinX5 : ∀ w ∈ wsX50, w ∈ wsX5_turn := by decide +kernel
  have hinX4 : ∀ w ∈ wsX40, w ∈ wsX5_turn := by decide +kernel
  have fin : ∀ (pc : Nat) (v : Int32) (u : ST_X5) (H : Heap) (locs : List Loc) (ls : Array Slot), some (v, u) = some out → va_P G.1 vwCl (ce_X5 G.2.1 a0 u) H → va_D A (ce_X5 G.2.1 a0 u) → va_S A s.heap H locs → decode cX5_turn pc = .ok (.ireturn, 1) → W p l e (headSpec wsX5_turn rm_X5_turn).room s m args below meth c H locs 0 0 (MQ below (QWr G (fun u => ce_X5 G.2.1 a0 u) out A) args s 0 0 A) (F0 m pc ls [.int v]) := fun pc v u H locs ls ho hP hD hS hd => W.iret (v := v) hx hb hr (fun t ht hW => ⟨⟨v, u, rfl, ob_pair ho, by first | (rw [ht]; exact hP) | (dsimp only; rw [ht]; exact hP), hD⟩, hS.F ht⟩) hS.2.2 hd
  generalize MQ below (QWr G (fun u => ce_X5 G.2.1 a0 u) out A) args s 0 0 A = Q at fin ⊢
  have go : ∀ (H : Heap) (locs : List Loc), va_P G.1 vwCl (ce_X5 G.2.1 a0 S0) H → va_D A (ce_X5 G.2.1 a0 S0) → va_S A s.heap H locs → ∀ (ls : Array Slot), lv_has ls 3 [(0, .ref a0.1), (1, .int p1), (2, .int p2)] → W p l e (headSpec wsX5_turn rm_X5_turn).room s m args below meth c H locs 0 0 Q (F0 m 0 ls []) := by
    intro H locs hP hD hS ls hl
    refine lv_aload_n hx hb dX5_turn_0 rfl (lv_at hl 0 rfl) ?_
    refine va_get (D := G.1) (ci := 5) (v := .ref a0.2.2.1.1) (C := RX5) (T := TX5) (N := 9) hx hb hts hinX5 hown hK hP 0 rfl rfl 1 (by decide) lk0 (fun _ h9 => h9) rfl dX5_turn_1 ?_
    refine va_getN (D := G.1) (ci := 4) (v := .ref a0.2.2.1.2.1.1) (C := RX4) (T := TX4) (N := 3) hx hb hts hinX4 hown hK hP 3 rfl rfl 0 (by decide) lk1 (fun _ h9 => h9) rfl dX5_turn_4 ?_
    refine lv_iload_n hx hb dX5_turn_7 rfl (lv_at hl 1 rfl) ?_
    obtain ⟨r1, hr1, hf⟩ := ob_bind hf
    have hPc : va_P G.1 vwCl (ce_X1 G.2.1 a0.2.2.1.2.1 S0.2.1.1) H := hP.sub [4, 5, 6, 7, 8, 9] rfl
    have hDc : va_D A (ce_X1 G.2.1 a0.2.2.1.2.1 S0.2.1.1) := hD.sub [4, 5, 6, 7, 8, 9] (by decide) rfl
    have hFc := va_free (wc := ce_X1 G.2.1 a0.2.2.1.2.1 S0.2.1.1) hD hS hA [4, 5, 6, 7, 8, 9] rfl
    refine zc_ro (va_runVN (As := [.int p1]) (rest := []) ⟨hx, hb, hml, hown, hts⟩ (c_X1_knows l G a0.2.2.1.2.1 H.size S0.2.1.1 p1 _ hr1) (⟨va_cnB 1 hts gX5_turn_X1_knows_n66 rfl rfl rfl (hE.1 _ nw_36) lk2 (by decide +kernel) ⟨Nat.le_of_ble_eq_true rfl, Nat.le_of_ble_eq_true rfl⟩, lk3, lk4⟩) ⟨PcM.blind, va_recv hK hPc (ci := 1) (q0 := 0) rfl rfl, PcM.ok hPc hDc hK hE hS hFc⟩ rfl rfl hl.1 rfl (lv_room (Nat.le_of_ble_eq_true rfl)) dX5_turn_8 ⟨Nat.le_refl _, Nat.le_refl _⟩) hP hD hS hA [4, 5, 6, 7, 8, 9] rfl (fun H locs hP hS => ?_)
    refine lv_if_ne (tgt := 20) hx hb dX5_turn_11 (by decide) (fun c2 => ?_) (fun c2 => ?_)
    · replace hf := ob_neg c2 hf
      refine lv_iload_n hx hb dX5_turn_20 rfl (lv_at hl 2 rfl) ?_
      refine lv_if_ge (tgt := 31) hx hb dX5_turn_21 (by decide) (fun c3 => ?_) (fun c3 => ?_)
      · replace hf := ob_pos c3 hf
        refine lv_iload_n hx hb dX5_turn_31 rfl (lv_at hl 2 rfl) ?_
        refine lv_bipush (v := 7) hx hb dX5_turn_32 (by decide) ?_
        refine lv_icmp_lt (tgt := 44) hx hb dX5_turn_34 (by decide) (fun c4 => ?_) (fun c4 => ?_)
        · replace hf := ob_pos c4 hf
          refine lv_aload_n hx hb dX5_turn_44 rfl (lv_at hl 0 rfl) ?_
          refine va_get (D := G.1) (ci := 5) (v := .ref a0.2.2.1.1) (C := RX5) (T := TX5) (N := 9) hx hb hts hinX5 hown hK hP 0 rfl rfl 1 (by decide) lk0 (fun _ h9 => h9) rfl dX5_turn_45 ?_
          refine va_getN (D := G.1) (ci := 4) (v := .ref a0.2.2.1.2.1.1) (C := RX4) (T := TX4) (N := 3) hx hb hts hinX4 hown hK hP 3 rfl rfl 0 (by decide) lk1 (fun _ h9 => h9) rfl dX5_turn_48 ?_
          refine lv_iload_n hx hb dX5_turn_51 rfl (lv_at hl 1 rfl) ?_
          refine lv_iload_n hx hb dX5_turn_52 rfl (lv_at hl 2 rfl) ?_
          obtain ⟨r5, hr5, hf⟩ := ob_bind hf
          have hPc : va_P G.1 vwCl (ce_X1 G.2.1 a0.2.2.1.2.1 S0.2.1.1) H := hP.sub [4, 5, 6, 7, 8, 9] rfl
          have hDc : va_D A (ce_X1 G.2.1 a0.2.2.1.2.1 S0.2.1.1) := hD.sub [4, 5, 6, 7, 8, 9] (by decide) rfl
          have hFc := va_free (wc := ce_X1 G.2.1 a0.2.2.1.2.1 S0.2.1.1) hD hS hA [4, 5, 6, 7, 8, 9] rfl
          refine zc_ro (va_runVN (As := [.int p1, .int p2]) (rest := []) ⟨hx, hb, hml, hown, hts⟩ (c_X1_turnOf l G a0.2.2.1.2.1 H.size S0.2.1.1 p1 p2 _ hr5) (⟨va_cnB 2 hts gX5_turn_X1_turnOf_n91 rfl rfl rfl (hE.1 _ nw_39) lk2 (by decide +kernel) ⟨Nat.le_of_ble_eq_true rfl, Nat.le_of_ble_eq_true rfl⟩, lk5, lk6⟩) ⟨PcM.blind, va_recv hK hPc (ci := 1) (q0 := 0) rfl rfl, PcM.ok hPc hDc hK hE hS hFc⟩ rfl rfl hl.1 rfl (lv_room (Nat.le_of_ble_eq_true rfl)) dX5_turn_53 ⟨Nat.le_refl _, Nat.le_refl _⟩) hP hD hS hA [4, 5, 6, 7, 8, 9] rfl (fun H locs hP hS => ?_)
          exact fin _ _ _ _ _ _ hf hP hD hS dX5_turn_56
        · replace hf := ob_neg c4 hf
          refine lv_aload_n hx hb dX5_turn_37 rfl (lv_at hl 0 rfl) ?_
          refine lv_bipush (v := (-6)) hx hb dX5_turn_38 (by decide) ?_
          obtain ⟨r6, hr6, hf⟩ := ob_bind hf
          have hFc := va_free (wc := ce_X5 G.2.1 a0 S0) hD hS hA [0, 1, 2, 3, 4, 5, 6, 7, 8, 9, 10, 11, 12, 13, 14, 15, 16, 17, 18, 19, 20, 21, 22, 23, 24, 25, 26, 27, 28, 29, 30, 31, 32, 33, 34, 35, 36, 37, 38] rfl
          refine zc_wr (cf := (fun u => ce_X5 G.2.1 a0 u)) (ws' := ce_X5 G.2.1 a0 r6.2) (va_runV (As := [.int (-6)]) (rest := []) ⟨hx, hb, hml, hown, hts⟩ (c_X5_refuse l G a0 H.size S0 (-6) _ hr6) (cwV 1 hts gX5_turn_X5_refuse rfl rfl rfl (by decide +kernel) ⟨Nat.le_of_ble_eq_true rfl, Nat.le_of_ble_eq_true rfl⟩) ⟨PcM.blind, va_recv hK hP (ci := 5) (q0 := 0) rfl rfl, PcM.ok hP hD hK hE hS hFc⟩ rfl rfl hl.1 rfl (lv_room (Nat.le_of_ble_eq_true rfl)) dX5_turn_40 ⟨Nat.le_refl _, Nat.le_refl _⟩) hP hD hS hA [0, 1, 2, 3, 4, 5, 6, 7, 8, 9, 10, 11, 12, 13, 14, 15, 16, 17, 18, 19, 20, 21, 22, 23, 24, 25, 26, 27, 28, 29, 30, 31, 32, 33, 34, 35, 36, 37, 38] [] [0, 1, 2, 3, 4, 5, 6, 7, 8, 9, 10, 11, 12, 13, 14, 15, 16, 17, 18, 19, 20, 21, 22, 23, 24, 25, 26, 27, 28, 29, 30, 31, 32, 33, 34, 35, 36, 37, 38] rfl rfl (by decide) (by decide) (by decide) rfl (fun H locs hP hD hS => ?_)
          exact fin _ _ _ _ _ _ hf hP hD hS dX5_turn_43
      · replace hf := ob_neg c3 hf
        refine lv_aload_n hx hb dX5_turn_24 rfl (lv_at hl 0 rfl) ?_
        refine lv_bipush (v := (-4)) hx hb dX5_turn_25 (by decide) ?_
        obtain ⟨r7, hr7, hf⟩ := ob_bind hf
        have hFc := va_free (wc := ce_X5 G.2.1 a0 S0) hD hS hA [0, 1, 2, 3, 4, 5, 6, 7, 8, 9, 10, 11, 12, 13, 14, 15, 16, 17, 18, 19, 20, 21, 22, 23, 24, 25, 26, 27, 28, 29, 30, 31, 32, 33, 34, 35, 36, 37, 38] rfl
        refine zc_wr (cf := (fun u => ce_X5 G.2.1 a0 u)) (ws' := ce_X5 G.2.1 a0 r7.2) (va_runV (As := [.int (-4)]) (rest := []) ⟨hx, hb, hml, hown, hts⟩ (c_X5_refuse l G a0 H.size S0 (-4) _ hr7) (cwV 1 hts gX5_turn_X5_refuse rfl rfl rfl (by decide +kernel) ⟨Nat.le_of_ble_eq_true rfl, Nat.le_of_ble_eq_true rfl⟩) ⟨PcM.blind, va_recv hK hP (ci := 5) (q0 := 0) rfl rfl, PcM.ok hP hD hK hE hS hFc⟩ rfl rfl hl.1 rfl (lv_room (Nat.le_of_ble_eq_true rfl)) dX5_turn_27 ⟨Nat.le_refl _, Nat.le_refl _⟩) hP hD hS hA [0, 1, 2, 3, 4, 5, 6, 7, 8, 9, 10, 11, 12, 13, 14, 15, 16, 17, 18, 19, 20, 21, 22, 23, 24, 25, 26, 27, 28, 29, 30, 31, 32, 33, 34, 35, 36, 37, 38] [] [0, 1, 2, 3, 4, 5, 6, 7, 8, 9, 10, 11, 12, 13, 14, 15, 16, 17, 18, 19, 20, 21, 22, 23, 24, 25, 26, 27, 28, 29, 30, 31, 32, 33, 34, 35, 36, 37, 38] rfl rfl (by decide) (by decide) (by decide) rfl (fun H locs hP hD hS => ?_)
        exact fin _ _ _ _ _ _ hf hP hD hS dX5_turn_30
    · replace hf := ob_pos c2 hf
      refine lv_aload_n hx hb dX5_turn_14 rfl (lv_at hl 0 rfl) ?_
      refine lv_iconst (v := (-1)) hx hb dX5_turn_15 (by decide) ?_
      obtain ⟨r8, hr8, hf⟩ := ob_bind hf
      have hFc := va_free (wc := ce_X5 G.2.1 a0 S0) hD hS hA [0, 1, 2, 3, 4, 5, 6, 7, 8, 9, 10, 11, 12, 13, 14, 15, 16, 17, 18, 19, 20, 21, 22, 23, 24, 25, 26, 27, 28, 29, 30, 31, 32, 33, 34, 35, 36, 37, 38] rfl
      refine zc_wr (cf := (fun u => ce_X5 G.2.1 a0 u)) (ws' := ce_X5 G.2.1 a0 r8.2) (va_runV (As := [.int (-1)]) (rest := []) ⟨hx, hb, hml, hown, hts⟩ (c_X5_refuse l G a0 H.size S0 (-1) _ hr8) (cwV 1 hts gX5_turn_X5_refuse rfl rfl rfl (by decide +kernel) ⟨Nat.le_of_ble_eq_true rfl, Nat.le_of_ble_eq_true rfl⟩) ⟨PcM.blind, va_recv hK hP (ci := 5) (q0 := 0) rfl rfl, PcM.ok hP hD hK hE hS hFc⟩ rfl rfl hl.1 rfl (lv_room (Nat.le_of_ble_eq_true rfl)) dX5_turn_16 ⟨Nat.le_refl _, Nat.le_refl _⟩) hP hD hS hA [0, 1, 2, 3, 4, 5, 6, 7, 8, 9, 10, 11, 12, 13, 14, 15, 16, 17, 18, 19, 20, 21, 22, 23, 24, 25, 26, 27, 28, 29, 30, 31, 32, 33, 34, 35, 36, 37, 38] [] [0, 1, 2, 3, 4, 5, 6, 7, 8, 9, 10, 11, 12, 13, 14, 15, 16, 17, 18, 19, 20, 21, 22, 23, 24, 25, 26, 27, 28, 29, 30, 31, 32, 33, 34, 35, 36, 37, 38] rfl rfl (by decide) (by decide) (by decide) rfl (fun H locs hP hD hS => ?_)
      exact fin _ _ _ _ _ _ hf hP hD hS dX5_turn_19
  exact go _ _ hP hD hS _ hl
abbrev rm_X5_at : Room := { frames := 4, cells := 0, slots := 0, locals := 93 }
set_option maxHeartbeats 4000000 in
set_option maxRecDepth 100000 in
theorem c_X5_at (l : Launch) (G : zG) (a0 : AT_X5) (sz : Nat) (S0 : ST_X5) (p1 : Int32) (p2 : Int32) (out : Int32 × ST_X5) (hf : f_X5_at S0 p1 p2 = some out) : Met l yX5_at wsX5_at rm_X5_at (PcM G (ce_X5 G.2.1 a0 S0) [.ref a0.1, .int p1, .int p2] sz) (QWr G (fun u => ce_X5 G.2.1 a0 u) out (va_A (ce_X5 G.2.1 a0 S0) sz)) 0 0 (va_A (ce_X5 G.2.1 a0 S0) sz) := by
  rw [f_X5_at] at hf
  refine Met.ofW (cc := cX5_at) (maxL := 3) (ret := (some .int)) (by decide) rfl ?_
  intro p e s m args below meth c s₁ B hml hv
  obtain ⟨hargs, hsz, hP, hK, hD0, hE⟩ := hv
  have hx := B.exec
  have hb := B.bytes
  have hr := B.returns
  have hts := atoms_spec (ws := wsX5_at) B.pre
  have hown : s.vm.findClass RX5 = some m.cls := findClass_of_methodNamed B.named
  have hlocks := B.notSynchronized
  subst hsz
  have hD := hD0.self (sz := s.heap.size)
  generalize hAe : va_A (ce_X5 G.2.1 a0 S0) s.heap.size = A at hD hE ⊢
  have hA : ∀ q : Nat, s.heap.size ≤ q → A q := fun q h => by rw [← hAe]; exact Or.inr h
  have hS : va_S A s.heap s.heap [] := va_S.rf
  have hl := lv_entry ([.ref a0.1, .int p1, .int p2]) (n := 3) (Nat.le_of_ble_eq_true rfl)
  have hent : entryFrame m args 3 = F0 m 0 ((lg_sl ([.ref a0.1, .int p1, .int p2]) ++ List.replicate (3 - (lg_sl ([.ref a0.1, .int p1, .int p2])).length) Slot.unset).toArray) [] := by rw [hargs, lg_entry_eq]
  rw [hent]
  clear hent
  generalize (lg_sl ([.ref a0.1, .int p1, .int p2]) ++ List.replicate (3 - (lg_sl ([.ref a0.1, .int p1, .int p2])).length) Slot.unset).toArray = ls at hl ⊢
  have hl : lv_has ls 3 [(0, .ref a0.1), (1, .int p1), (2, .int p2)] := hl
  have lk0 := hts (Cond.fieldLink RX5 19 "EnginesOnList" "now" "LEnginesOnList$World;") (List.mem_of_getElem? (i := 1) rfl)
  have lk1 := va_Nw.use (A := args) rfl (hE.1 _ nw_14)
  have lk2 := hts (Cond.initialized RX1) (List.mem_of_getElem? (i := 3) rfl)
  have lk3 := hts (Cond.instanceMethod yX1_knows) (List.mem_of_getElem? (i := 2) rfl)
  have lk4 := hts (Cond.selects RX1 yX1_knows yX1_knows) (List.mem_of_getElem? (i := 4) rfl)
  have lk5 := hts (Cond.instanceMethod yX1_placeOn) (List.mem_of_getElem? (i := 13) rfl)
  have lk6 := hts (Cond.selects RX1 yX1_placeOn yX1_placeOn) (List.mem_of_getElem? (i := 14) rfl)
  have hinX5 : ∀ w ∈ wsX50, w ∈ wsX5_at := by decide +kernel
  have hinX4 : ∀ w ∈ wsX40, w ∈ wsX5_at := by decide +kernel
  have fin : ∀ (pc : Nat) (v : Int32) (u : ST_X5) (H : Heap) (locs : List Loc) (ls : Array Slot), some (v, u) = some out → va_P G.1 vwCl (ce_X5 G.2.1 a0 u) H → va_D A (ce_X5 G.2.1 a0 u) → va_S A s.heap H locs → decode cX5_at pc = .ok (.ireturn, 1) → W p l e (headSpec wsX5_at rm_X5_at).room s m args below meth c H locs 0 0 (MQ below (QWr G (fun u => ce_X5 G.2.1 a0 u) out A) args s 0 0 A) (F0 m pc ls [.int v]) := fun pc v u H locs ls ho hP hD hS hd => W.iret (v := v) hx hb hr (fun t ht hW => ⟨⟨v, u, rfl, ob_pair ho, by first | (rw [ht]; exact hP) | (dsimp only; rw [ht]; exact hP), hD⟩, hS.F ht⟩) hS.2.2 hd
  generalize MQ below (QWr G (fun u => ce_X5 G.2.1 a0 u) out A) args s 0 0 A = Q at fin ⊢
  have go : ∀ (H : Heap) (locs : List Loc), va_P G.1 vwCl (ce_X5 G.2.1 a0 S0) H → va_D A (ce_X5 G.2.1 a0 S0) → va_S A s.heap H locs → ∀ (ls : Array Slot), lv_has ls 3 [(0, .ref a0.1), (1, .int p1), (2, .int p2)] → W p l e (headSpec wsX5_at rm_X5_at).room s m args below meth c H locs 0 0 Q (F0 m 0 ls []) := by
    intro H locs hP hD hS ls hl
    refine lv_aload_n hx hb dX5_at_0 rfl (lv_at hl 0 rfl) ?_
    refine va_get (D := G.1) (ci := 5) (v := .ref a0.2.2.1.1) (C := RX5) (T := TX5) (N := 9) hx hb hts hinX5 hown hK hP 0 rfl rfl 1 (by decide) lk0 (fun _ h9 => h9) rfl dX5_at_1 ?_
    refine va_getN (D := G.1) (ci := 4) (v := .ref a0.2.2.1.2.1.1) (C := RX4) (T := TX4) (N := 3) hx hb hts hinX4 hown hK hP 3 rfl rfl 0 (by decide) lk1 (fun _ h9 => h9) rfl dX5_at_4 ?_
    refine lv_iload_n hx hb dX5_at_7 rfl (lv_at hl 1 rfl) ?_
    obtain ⟨r1, hr1, hf⟩ := ob_bind hf
    have hPc : va_P G.1 vwCl (ce_X1 G.2.1 a0.2.2.1.2.1 S0.2.1.1) H := hP.sub [4, 5, 6, 7, 8, 9] rfl
    have hDc : va_D A (ce_X1 G.2.1 a0.2.2.1.2.1 S0.2.1.1) := hD.sub [4, 5, 6, 7, 8, 9] (by decide) rfl
    have hFc := va_free (wc := ce_X1 G.2.1 a0.2.2.1.2.1 S0.2.1.1) hD hS hA [4, 5, 6, 7, 8, 9] rfl
    refine zc_ro (va_runVN (As := [.int p1]) (rest := []) ⟨hx, hb, hml, hown, hts⟩ (c_X1_knows l G a0.2.2.1.2.1 H.size S0.2.1.1 p1 _ hr1) (⟨va_cnB 1 hts gX5_at_X1_knows_n66 rfl rfl rfl (hE.1 _ nw_36) lk2 (by decide +kernel) ⟨Nat.le_of_ble_eq_true rfl, Nat.le_of_ble_eq_true rfl⟩, lk3, lk4⟩) ⟨PcM.blind, va_recv hK hPc (ci := 1) (q0 := 0) rfl rfl, PcM.ok hPc hDc hK hE hS hFc⟩ rfl rfl hl.1 rfl (lv_room (Nat.le_of_ble_eq_true rfl)) dX5_at_8 ⟨Nat.le_refl _, Nat.le_refl _⟩) hP hD hS hA [4, 5, 6, 7, 8, 9] rfl (fun H locs hP hS => ?_)
    refine lv_if_ne (tgt := 20) hx hb dX5_at_11 (by decide) (fun c2 => ?_) (fun c2 => ?_)
    · replace hf := ob_neg c2 hf
      refine lv_iload_n hx hb dX5_at_20 rfl (lv_at hl 2 rfl) ?_
      refine lv_if_ge (tgt := 31) hx hb dX5_at_21 (by decide) (fun c3 => ?_) (fun c3 => ?_)
      · replace hf := ob_pos c3 hf
        refine lv_iload_n hx hb dX5_at_31 rfl (lv_at hl 2 rfl) ?_
        refine lv_sipush (v := 1100) hx hb dX5_at_32 (by decide) ?_
        refine lv_icmp_le (tgt := 45) hx hb dX5_at_35 (by decide) (fun c4 => ?_) (fun c4 => ?_)
        · replace hf := ob_pos c4 hf
          refine lv_aload_n hx hb dX5_at_45 rfl (lv_at hl 0 rfl) ?_
          refine va_get (D := G.1) (ci := 5) (v := .ref a0.2.2.1.1) (C := RX5) (T := TX5) (N := 9) hx hb hts hinX5 hown hK hP 0 rfl rfl 1 (by decide) lk0 (fun _ h9 => h9) rfl dX5_at_46 ?_
          refine va_getN (D := G.1) (ci := 4) (v := .ref a0.2.2.1.2.1.1) (C := RX4) (T := TX4) (N := 3) hx hb hts hinX4 hown hK hP 3 rfl rfl 0 (by decide) lk1 (fun _ h9 => h9) rfl dX5_at_49 ?_
          refine lv_iload_n hx hb dX5_at_52 rfl (lv_at hl 1 rfl) ?_
          refine lv_iload_n hx hb dX5_at_53 rfl (lv_at hl 2 rfl) ?_
          obtain ⟨r5, hr5, hf⟩ := ob_bind hf
          have hPc : va_P G.1 vwCl (ce_X1 G.2.1 a0.2.2.1.2.1 S0.2.1.1) H := hP.sub [4, 5, 6, 7, 8, 9] rfl
          have hDc : va_D A (ce_X1 G.2.1 a0.2.2.1.2.1 S0.2.1.1) := hD.sub [4, 5, 6, 7, 8, 9] (by decide) rfl
          have hFc := va_free (wc := ce_X1 G.2.1 a0.2.2.1.2.1 S0.2.1.1) hD hS hA [4, 5, 6, 7, 8, 9] rfl
          refine zc_ro (va_runVN (As := [.int p1, .int p2]) (rest := []) ⟨hx, hb, hml, hown, hts⟩ (c_X1_placeOn l G a0.2.2.1.2.1 H.size S0.2.1.1 p1 p2 _ hr5) (⟨va_cnB 2 hts gX5_at_X1_placeOn_n95 rfl rfl rfl (hE.1 _ nw_40) lk2 (by decide +kernel) ⟨Nat.le_of_ble_eq_true rfl, Nat.le_of_ble_eq_true rfl⟩, lk5, lk6⟩) ⟨PcM.blind, va_recv hK hPc (ci := 1) (q0 := 0) rfl rfl, PcM.ok hPc hDc hK hE hS hFc⟩ rfl rfl hl.1 rfl (lv_room (Nat.le_of_ble_eq_true rfl)) dX5_at_54 ⟨Nat.le_refl _, Nat.le_refl _⟩) hP hD hS hA [4, 5, 6, 7, 8, 9] rfl (fun H locs hP hS => ?_)
          exact fin _ _ _ _ _ _ hf hP hD hS dX5_at_57
        · replace hf := ob_neg c4 hf
          refine lv_aload_n hx hb dX5_at_38 rfl (lv_at hl 0 rfl) ?_
          refine lv_bipush (v := (-6)) hx hb dX5_at_39 (by decide) ?_
          obtain ⟨r6, hr6, hf⟩ := ob_bind hf
          have hFc := va_free (wc := ce_X5 G.2.1 a0 S0) hD hS hA [0, 1, 2, 3, 4, 5, 6, 7, 8, 9, 10, 11, 12, 13, 14, 15, 16, 17, 18, 19, 20, 21, 22, 23, 24, 25, 26, 27, 28, 29, 30, 31, 32, 33, 34, 35, 36, 37, 38] rfl
          refine zc_wr (cf := (fun u => ce_X5 G.2.1 a0 u)) (ws' := ce_X5 G.2.1 a0 r6.2) (va_runV (As := [.int (-6)]) (rest := []) ⟨hx, hb, hml, hown, hts⟩ (c_X5_refuse l G a0 H.size S0 (-6) _ hr6) (cwV 1 hts gX5_at_X5_refuse rfl rfl rfl (by decide +kernel) ⟨Nat.le_of_ble_eq_true rfl, Nat.le_of_ble_eq_true rfl⟩) ⟨PcM.blind, va_recv hK hP (ci := 5) (q0 := 0) rfl rfl, PcM.ok hP hD hK hE hS hFc⟩ rfl rfl hl.1 rfl (lv_room (Nat.le_of_ble_eq_true rfl)) dX5_at_41 ⟨Nat.le_refl _, Nat.le_refl _⟩) hP hD hS hA [0, 1, 2, 3, 4, 5, 6, 7, 8, 9, 10, 11, 12, 13, 14, 15, 16, 17, 18, 19, 20, 21, 22, 23, 24, 25, 26, 27, 28, 29, 30, 31, 32, 33, 34, 35, 36, 37, 38] [] [0, 1, 2, 3, 4, 5, 6, 7, 8, 9, 10, 11, 12, 13, 14, 15, 16, 17, 18, 19, 20, 21, 22, 23, 24, 25, 26, 27, 28, 29, 30, 31, 32, 33, 34, 35, 36, 37, 38] rfl rfl (by decide) (by decide) (by decide) rfl (fun H locs hP hD hS => ?_)
          exact fin _ _ _ _ _ _ hf hP hD hS dX5_at_44
      · replace hf := ob_neg c3 hf
        refine lv_aload_n hx hb dX5_at_24 rfl (lv_at hl 0 rfl) ?_
        refine lv_bipush (v := (-4)) hx hb dX5_at_25 (by decide) ?_
        obtain ⟨r7, hr7, hf⟩ := ob_bind hf
        have hFc := va_free (wc := ce_X5 G.2.1 a0 S0) hD hS hA [0, 1, 2, 3, 4, 5, 6, 7, 8, 9, 10, 11, 12, 13, 14, 15, 16, 17, 18, 19, 20, 21, 22, 23, 24, 25, 26, 27, 28, 29, 30, 31, 32, 33, 34, 35, 36, 37, 38] rfl
        refine zc_wr (cf := (fun u => ce_X5 G.2.1 a0 u)) (ws' := ce_X5 G.2.1 a0 r7.2) (va_runV (As := [.int (-4)]) (rest := []) ⟨hx, hb, hml, hown, hts⟩ (c_X5_refuse l G a0 H.size S0 (-4) _ hr7) (cwV 1 hts gX5_at_X5_refuse rfl rfl rfl (by decide +kernel) ⟨Nat.le_of_ble_eq_true rfl, Nat.le_of_ble_eq_true rfl⟩) ⟨PcM.blind, va_recv hK hP (ci := 5) (q0 := 0) rfl rfl, PcM.ok hP hD hK hE hS hFc⟩ rfl rfl hl.1 rfl (lv_room (Nat.le_of_ble_eq_true rfl)) dX5_at_27 ⟨Nat.le_refl _, Nat.le_refl _⟩) hP hD hS hA [0, 1, 2, 3, 4, 5, 6, 7, 8, 9, 10, 11, 12, 13, 14, 15, 16, 17, 18, 19, 20, 21, 22, 23, 24, 25, 26, 27, 28, 29, 30, 31, 32, 33, 34, 35, 36, 37, 38] [] [0, 1, 2, 3, 4, 5, 6, 7, 8, 9, 10, 11, 12, 13, 14, 15, 16, 17, 18, 19, 20, 21, 22, 23, 24, 25, 26, 27, 28, 29, 30, 31, 32, 33, 34, 35, 36, 37, 38] rfl rfl (by decide) (by decide) (by decide) rfl (fun H locs hP hD hS => ?_)
        exact fin _ _ _ _ _ _ hf hP hD hS dX5_at_30
    · replace hf := ob_pos c2 hf
      refine lv_aload_n hx hb dX5_at_14 rfl (lv_at hl 0 rfl) ?_
      refine lv_iconst (v := (-1)) hx hb dX5_at_15 (by decide) ?_
      obtain ⟨r8, hr8, hf⟩ := ob_bind hf
      have hFc := va_free (wc := ce_X5 G.2.1 a0 S0) hD hS hA [0, 1, 2, 3, 4, 5, 6, 7, 8, 9, 10, 11, 12, 13, 14, 15, 16, 17, 18, 19, 20, 21, 22, 23, 24, 25, 26, 27, 28, 29, 30, 31, 32, 33, 34, 35, 36, 37, 38] rfl
      refine zc_wr (cf := (fun u => ce_X5 G.2.1 a0 u)) (ws' := ce_X5 G.2.1 a0 r8.2) (va_runV (As := [.int (-1)]) (rest := []) ⟨hx, hb, hml, hown, hts⟩ (c_X5_refuse l G a0 H.size S0 (-1) _ hr8) (cwV 1 hts gX5_at_X5_refuse rfl rfl rfl (by decide +kernel) ⟨Nat.le_of_ble_eq_true rfl, Nat.le_of_ble_eq_true rfl⟩) ⟨PcM.blind, va_recv hK hP (ci := 5) (q0 := 0) rfl rfl, PcM.ok hP hD hK hE hS hFc⟩ rfl rfl hl.1 rfl (lv_room (Nat.le_of_ble_eq_true rfl)) dX5_at_16 ⟨Nat.le_refl _, Nat.le_refl _⟩) hP hD hS hA [0, 1, 2, 3, 4, 5, 6, 7, 8, 9, 10, 11, 12, 13, 14, 15, 16, 17, 18, 19, 20, 21, 22, 23, 24, 25, 26, 27, 28, 29, 30, 31, 32, 33, 34, 35, 36, 37, 38] [] [0, 1, 2, 3, 4, 5, 6, 7, 8, 9, 10, 11, 12, 13, 14, 15, 16, 17, 18, 19, 20, 21, 22, 23, 24, 25, 26, 27, 28, 29, 30, 31, 32, 33, 34, 35, 36, 37, 38] rfl rfl (by decide) (by decide) (by decide) rfl (fun H locs hP hD hS => ?_)
      exact fin _ _ _ _ _ _ hf hP hD hS dX5_at_19
  exact go _ _ hP hD hS _ hl
abbrev rm_X5_pass : Room := { frames := 5, cells := 0, slots := 0, locals := 117 }
set_option maxHeartbeats 4000000 in
set_option maxRecDepth 100000 in
theorem c_X5_pass (l : Launch) (G : zG) (a0 : AT_X5) (sz : Nat) (S0 : ST_X5) (p1 : Int32) (p2 : Int32) (out : Int32 × ST_X5) (hf : f_X5_pass S0 p1 p2 = some out) : Met l yX5_pass wsX5_pass rm_X5_pass (PcM G (ce_X5 G.2.1 a0 S0) [.ref a0.1, .int p1, .int p2] sz) (QWr G (fun u => ce_X5 G.2.1 a0 u) out (va_A (ce_X5 G.2.1 a0 S0) sz)) 0 0 (va_A (ce_X5 G.2.1 a0 S0) sz) := by
  rw [f_X5_pass] at hf
  refine Met.ofW (cc := cX5_pass) (maxL := 3) (ret := (some .int)) (by decide) rfl ?_
  intro p e s m args below meth c s₁ B hml hv
  obtain ⟨hargs, hsz, hP, hK, hD0, hE⟩ := hv
  have hx := B.exec
  have hb := B.bytes
  have hr := B.returns
  have hts := atoms_spec (ws := wsX5_pass) B.pre
  have hown : s.vm.findClass RX5 = some m.cls := findClass_of_methodNamed B.named
  have hlocks := B.notSynchronized
  subst hsz
  have hD := hD0.self (sz := s.heap.size)
  generalize hAe : va_A (ce_X5 G.2.1 a0 S0) s.heap.size = A at hD hE ⊢
  have hA : ∀ q : Nat, s.heap.size ≤ q → A q := fun q h => by rw [← hAe]; exact Or.inr h
  have hS : va_S A s.heap s.heap [] := va_S.rf
  have hl := lv_entry ([.ref a0.1, .int p1, .int p2]) (n := 3) (Nat.le_of_ble_eq_true rfl)
  have hent : entryFrame m args 3 = F0 m 0 ((lg_sl ([.ref a0.1, .int p1, .int p2]) ++ List.replicate (3 - (lg_sl ([.ref a0.1, .int p1, .int p2])).length) Slot.unset).toArray) [] := by rw [hargs, lg_entry_eq]
  rw [hent]
  clear hent
  generalize (lg_sl ([.ref a0.1, .int p1, .int p2]) ++ List.replicate (3 - (lg_sl ([.ref a0.1, .int p1, .int p2])).length) Slot.unset).toArray = ls at hl ⊢
  have hl : lv_has ls 3 [(0, .ref a0.1), (1, .int p1), (2, .int p2)] := hl
  have lk0 := hts (Cond.fieldLink RX5 19 "EnginesOnList" "now" "LEnginesOnList$World;") (List.mem_of_getElem? (i := 1) rfl)
  have lk1 := va_Nw.use (A := args) rfl (hE.1 _ nw_14)
  have lk2 := hts (Cond.initialized RX1) (List.mem_of_getElem? (i := 12) rfl)
  have lk3 := hts (Cond.instanceMethod yX1_passing) (List.mem_of_getElem? (i := 11) rfl)
  have lk4 := hts (Cond.selects RX1 yX1_passing yX1_passing) (List.mem_of_getElem? (i := 13) rfl)
  have hinX5 : ∀ w ∈ wsX50, w ∈ wsX5_pass := by decide +kernel
  have hinX4 : ∀ w ∈ wsX40, w ∈ wsX5_pass := by decide +kernel
  have fin : ∀ (pc : Nat) (v : Int32) (u : ST_X5) (H : Heap) (locs : List Loc) (ls : Array Slot), some (v, u) = some out → va_P G.1 vwCl (ce_X5 G.2.1 a0 u) H → va_D A (ce_X5 G.2.1 a0 u) → va_S A s.heap H locs → decode cX5_pass pc = .ok (.ireturn, 1) → W p l e (headSpec wsX5_pass rm_X5_pass).room s m args below meth c H locs 0 0 (MQ below (QWr G (fun u => ce_X5 G.2.1 a0 u) out A) args s 0 0 A) (F0 m pc ls [.int v]) := fun pc v u H locs ls ho hP hD hS hd => W.iret (v := v) hx hb hr (fun t ht hW => ⟨⟨v, u, rfl, ob_pair ho, by first | (rw [ht]; exact hP) | (dsimp only; rw [ht]; exact hP), hD⟩, hS.F ht⟩) hS.2.2 hd
  generalize MQ below (QWr G (fun u => ce_X5 G.2.1 a0 u) out A) args s 0 0 A = Q at fin ⊢
  have go : ∀ (H : Heap) (locs : List Loc), va_P G.1 vwCl (ce_X5 G.2.1 a0 S0) H → va_D A (ce_X5 G.2.1 a0 S0) → va_S A s.heap H locs → ∀ (ls : Array Slot), lv_has ls 3 [(0, .ref a0.1), (1, .int p1), (2, .int p2)] → W p l e (headSpec wsX5_pass rm_X5_pass).room s m args below meth c H locs 0 0 Q (F0 m 0 ls []) := by
    intro H locs hP hD hS ls hl
    refine lv_iload_n hx hb dX5_pass_0 rfl (lv_at hl 1 rfl) ?_
    obtain ⟨r1, hr1, hf⟩ := ob_bind hf
    have hPc : va_P G.1 vwCl (([] : va_W)) H := hP.sub [] rfl
    have hDc : va_D A (([] : va_W)) := hD.sub [] (by decide) rfl
    have hFc := va_free (wc := ([] : va_W)) hD hS hA [] rfl
    refine zc_ro (va_runS (As := [.int p1]) (rest := []) ⟨hx, hb, hml, hown, hts⟩ (c_X5_isPlace l G H.size p1 _ hr1) (va_cwS 1 hts gX5_pass_X5_isPlace rfl rfl rfl (by decide +kernel) ⟨Nat.le_of_ble_eq_true rfl, Nat.le_of_ble_eq_true rfl⟩) ⟨PcM.blind, PcM.ok hPc hDc hK hE hS hFc⟩ rfl rfl hl.1 rfl (lv_room (Nat.le_of_ble_eq_true rfl)) dX5_pass_1 ⟨Nat.le_refl _, Nat.le_refl _⟩) hP hD hS hA [] rfl (fun H locs hP hS => ?_)
    refine lv_if_ne (tgt := 13) hx hb dX5_pass_4 (by decide) (fun c2 => ?_) (fun c2 => ?_)
    · replace hf := ob_neg c2 hf
      refine lv_iload_n hx hb dX5_pass_13 rfl (lv_at hl 2 rfl) ?_
      refine lv_if_ge (tgt := 24) hx hb dX5_pass_14 (by decide) (fun c3 => ?_) (fun c3 => ?_)
      · replace hf := ob_pos c3 hf
        refine lv_iload_n hx hb dX5_pass_24 rfl (lv_at hl 2 rfl) ?_
        refine lv_sipush (v := 1100) hx hb dX5_pass_25 (by decide) ?_
        refine lv_icmp_le (tgt := 38) hx hb dX5_pass_28 (by decide) (fun c4 => ?_) (fun c4 => ?_)
        · replace hf := ob_pos c4 hf
          refine lv_aload_n hx hb dX5_pass_38 rfl (lv_at hl 0 rfl) ?_
          refine va_get (D := G.1) (ci := 5) (v := .ref a0.2.2.1.1) (C := RX5) (T := TX5) (N := 9) hx hb hts hinX5 hown hK hP 0 rfl rfl 1 (by decide) lk0 (fun _ h9 => h9) rfl dX5_pass_39 ?_
          refine va_getN (D := G.1) (ci := 4) (v := .ref a0.2.2.1.2.1.1) (C := RX4) (T := TX4) (N := 3) hx hb hts hinX4 hown hK hP 3 rfl rfl 0 (by decide) lk1 (fun _ h9 => h9) rfl dX5_pass_42 ?_
          refine lv_iload_n hx hb dX5_pass_45 rfl (lv_at hl 1 rfl) ?_
          refine lv_iload_n hx hb dX5_pass_46 rfl (lv_at hl 2 rfl) ?_
          obtain ⟨r5, hr5, hf⟩ := ob_bind hf
          have hPc : va_P G.1 vwCl (ce_X1 G.2.1 a0.2.2.1.2.1 S0.2.1.1) H := hP.sub [4, 5, 6, 7, 8, 9] rfl
          have hDc : va_D A (ce_X1 G.2.1 a0.2.2.1.2.1 S0.2.1.1) := hD.sub [4, 5, 6, 7, 8, 9] (by decide) rfl
          have hFc := va_free (wc := ce_X1 G.2.1 a0.2.2.1.2.1 S0.2.1.1) hD hS hA [4, 5, 6, 7, 8, 9] rfl
          refine zc_ro (va_runVN (As := [.int p1, .int p2]) (rest := []) ⟨hx, hb, hml, hown, hts⟩ (c_X1_passing l G a0.2.2.1.2.1 H.size S0.2.1.1 p1 p2 _ hr5) (⟨va_cnB 2 hts gX5_pass_X1_passing_n101 rfl rfl rfl (hE.1 _ nw_41) lk2 (by decide +kernel) ⟨Nat.le_of_ble_eq_true rfl, Nat.le_of_ble_eq_true rfl⟩, lk3, lk4⟩) ⟨PcM.blind, va_recv hK hPc (ci := 1) (q0 := 0) rfl rfl, PcM.ok hPc hDc hK hE hS hFc⟩ rfl rfl hl.1 rfl (lv_room (Nat.le_of_ble_eq_true rfl)) dX5_pass_47 ⟨Nat.le_refl _, Nat.le_refl _⟩) hP hD hS hA [4, 5, 6, 7, 8, 9] rfl (fun H locs hP hS => ?_)
          exact fin _ _ _ _ _ _ hf hP hD hS dX5_pass_50
        · replace hf := ob_neg c4 hf
          refine lv_aload_n hx hb dX5_pass_31 rfl (lv_at hl 0 rfl) ?_
          refine lv_bipush (v := (-6)) hx hb dX5_pass_32 (by decide) ?_
          obtain ⟨r6, hr6, hf⟩ := ob_bind hf
          have hFc := va_free (wc := ce_X5 G.2.1 a0 S0) hD hS hA [0, 1, 2, 3, 4, 5, 6, 7, 8, 9, 10, 11, 12, 13, 14, 15, 16, 17, 18, 19, 20, 21, 22, 23, 24, 25, 26, 27, 28, 29, 30, 31, 32, 33, 34, 35, 36, 37, 38] rfl
          refine zc_wr (cf := (fun u => ce_X5 G.2.1 a0 u)) (ws' := ce_X5 G.2.1 a0 r6.2) (va_runV (As := [.int (-6)]) (rest := []) ⟨hx, hb, hml, hown, hts⟩ (c_X5_refuse l G a0 H.size S0 (-6) _ hr6) (cwV 1 hts gX5_pass_X5_refuse rfl rfl rfl (by decide +kernel) ⟨Nat.le_of_ble_eq_true rfl, Nat.le_of_ble_eq_true rfl⟩) ⟨PcM.blind, va_recv hK hP (ci := 5) (q0 := 0) rfl rfl, PcM.ok hP hD hK hE hS hFc⟩ rfl rfl hl.1 rfl (lv_room (Nat.le_of_ble_eq_true rfl)) dX5_pass_34 ⟨Nat.le_refl _, Nat.le_refl _⟩) hP hD hS hA [0, 1, 2, 3, 4, 5, 6, 7, 8, 9, 10, 11, 12, 13, 14, 15, 16, 17, 18, 19, 20, 21, 22, 23, 24, 25, 26, 27, 28, 29, 30, 31, 32, 33, 34, 35, 36, 37, 38] [] [0, 1, 2, 3, 4, 5, 6, 7, 8, 9, 10, 11, 12, 13, 14, 15, 16, 17, 18, 19, 20, 21, 22, 23, 24, 25, 26, 27, 28, 29, 30, 31, 32, 33, 34, 35, 36, 37, 38] rfl rfl (by decide) (by decide) (by decide) rfl (fun H locs hP hD hS => ?_)
          exact fin _ _ _ _ _ _ hf hP hD hS dX5_pass_37
      · replace hf := ob_neg c3 hf
        refine lv_aload_n hx hb dX5_pass_17 rfl (lv_at hl 0 rfl) ?_
        refine lv_bipush (v := (-4)) hx hb dX5_pass_18 (by decide) ?_
        obtain ⟨r7, hr7, hf⟩ := ob_bind hf
        have hFc := va_free (wc := ce_X5 G.2.1 a0 S0) hD hS hA [0, 1, 2, 3, 4, 5, 6, 7, 8, 9, 10, 11, 12, 13, 14, 15, 16, 17, 18, 19, 20, 21, 22, 23, 24, 25, 26, 27, 28, 29, 30, 31, 32, 33, 34, 35, 36, 37, 38] rfl
        refine zc_wr (cf := (fun u => ce_X5 G.2.1 a0 u)) (ws' := ce_X5 G.2.1 a0 r7.2) (va_runV (As := [.int (-4)]) (rest := []) ⟨hx, hb, hml, hown, hts⟩ (c_X5_refuse l G a0 H.size S0 (-4) _ hr7) (cwV 1 hts gX5_pass_X5_refuse rfl rfl rfl (by decide +kernel) ⟨Nat.le_of_ble_eq_true rfl, Nat.le_of_ble_eq_true rfl⟩) ⟨PcM.blind, va_recv hK hP (ci := 5) (q0 := 0) rfl rfl, PcM.ok hP hD hK hE hS hFc⟩ rfl rfl hl.1 rfl (lv_room (Nat.le_of_ble_eq_true rfl)) dX5_pass_20 ⟨Nat.le_refl _, Nat.le_refl _⟩) hP hD hS hA [0, 1, 2, 3, 4, 5, 6, 7, 8, 9, 10, 11, 12, 13, 14, 15, 16, 17, 18, 19, 20, 21, 22, 23, 24, 25, 26, 27, 28, 29, 30, 31, 32, 33, 34, 35, 36, 37, 38] [] [0, 1, 2, 3, 4, 5, 6, 7, 8, 9, 10, 11, 12, 13, 14, 15, 16, 17, 18, 19, 20, 21, 22, 23, 24, 25, 26, 27, 28, 29, 30, 31, 32, 33, 34, 35, 36, 37, 38] rfl rfl (by decide) (by decide) (by decide) rfl (fun H locs hP hD hS => ?_)
        exact fin _ _ _ _ _ _ hf hP hD hS dX5_pass_23
    · replace hf := ob_pos c2 hf
      refine lv_aload_n hx hb dX5_pass_7 rfl (lv_at hl 0 rfl) ?_
      refine lv_iconst (v := (-1)) hx hb dX5_pass_8 (by decide) ?_
      obtain ⟨r8, hr8, hf⟩ := ob_bind hf
      have hFc := va_free (wc := ce_X5 G.2.1 a0 S0) hD hS hA [0, 1, 2, 3, 4, 5, 6, 7, 8, 9, 10, 11, 12, 13, 14, 15, 16, 17, 18, 19, 20, 21, 22, 23, 24, 25, 26, 27, 28, 29, 30, 31, 32, 33, 34, 35, 36, 37, 38] rfl
      refine zc_wr (cf := (fun u => ce_X5 G.2.1 a0 u)) (ws' := ce_X5 G.2.1 a0 r8.2) (va_runV (As := [.int (-1)]) (rest := []) ⟨hx, hb, hml, hown, hts⟩ (c_X5_refuse l G a0 H.size S0 (-1) _ hr8) (cwV 1 hts gX5_pass_X5_refuse rfl rfl rfl (by decide +kernel) ⟨Nat.le_of_ble_eq_true rfl, Nat.le_of_ble_eq_true rfl⟩) ⟨PcM.blind, va_recv hK hP (ci := 5) (q0 := 0) rfl rfl, PcM.ok hP hD hK hE hS hFc⟩ rfl rfl hl.1 rfl (lv_room (Nat.le_of_ble_eq_true rfl)) dX5_pass_9 ⟨Nat.le_refl _, Nat.le_refl _⟩) hP hD hS hA [0, 1, 2, 3, 4, 5, 6, 7, 8, 9, 10, 11, 12, 13, 14, 15, 16, 17, 18, 19, 20, 21, 22, 23, 24, 25, 26, 27, 28, 29, 30, 31, 32, 33, 34, 35, 36, 37, 38] [] [0, 1, 2, 3, 4, 5, 6, 7, 8, 9, 10, 11, 12, 13, 14, 15, 16, 17, 18, 19, 20, 21, 22, 23, 24, 25, 26, 27, 28, 29, 30, 31, 32, 33, 34, 35, 36, 37, 38] rfl rfl (by decide) (by decide) (by decide) rfl (fun H locs hP hD hS => ?_)
      exact fin _ _ _ _ _ _ hf hP hD hS dX5_pass_12
  exact go _ _ hP hD hS _ hl
abbrev rm_X5_stand : Room := { frames := 5, cells := 0, slots := 0, locals := 117 }
set_option maxHeartbeats 4000000 in
set_option maxRecDepth 100000 in
theorem c_X5_stand (l : Launch) (G : zG) (a0 : AT_X5) (sz : Nat) (S0 : ST_X5) (p1 : Int32) (out : Int32 × ST_X5) (hf : f_X5_stand S0 p1 = some out) : Met l yX5_stand wsX5_stand rm_X5_stand (PcM G (ce_X5 G.2.1 a0 S0) [.ref a0.1, .int p1] sz) (QWr G (fun u => ce_X5 G.2.1 a0 u) out (va_A (ce_X5 G.2.1 a0 S0) sz)) 0 0 (va_A (ce_X5 G.2.1 a0 S0) sz) := by
  rw [f_X5_stand] at hf
  refine Met.ofW (cc := cX5_stand) (maxL := 4) (ret := (some .int)) (by decide) rfl ?_
  intro p e s m args below meth c s₁ B hml hv
  obtain ⟨hargs, hsz, hP, hK, hD0, hE⟩ := hv
  have hx := B.exec
  have hb := B.bytes
  have hr := B.returns
  have hts := atoms_spec (ws := wsX5_stand) B.pre
  have hown : s.vm.findClass RX5 = some m.cls := findClass_of_methodNamed B.named
  have hlocks := B.notSynchronized
  subst hsz
  have hD := hD0.self (sz := s.heap.size)
  generalize hAe : va_A (ce_X5 G.2.1 a0 S0) s.heap.size = A at hD hE ⊢
  have hA : ∀ q : Nat, s.heap.size ≤ q → A q := fun q h => by rw [← hAe]; exact Or.inr h
  have hS : va_S A s.heap s.heap [] := va_S.rf
  have hl := lv_entry ([.ref a0.1, .int p1]) (n := 4) (Nat.le_of_ble_eq_true rfl)
  have hent : entryFrame m args 4 = F0 m 0 ((lg_sl ([.ref a0.1, .int p1]) ++ List.replicate (4 - (lg_sl ([.ref a0.1, .int p1])).length) Slot.unset).toArray) [] := by rw [hargs, lg_entry_eq]
  rw [hent]
  clear hent
  generalize (lg_sl ([.ref a0.1, .int p1]) ++ List.replicate (4 - (lg_sl ([.ref a0.1, .int p1])).length) Slot.unset).toArray = ls at hl ⊢
  have hl : lv_has ls 4 [(0, .ref a0.1), (1, .int p1)] := hl
  have lk0 := hts (Cond.fieldLink RX5 19 "EnginesOnList" "now" "LEnginesOnList$World;") (List.mem_of_getElem? (i := 1) rfl)
  have lk1 := va_Nw.use (A := args) rfl (hE.1 _ nw_17)
  have lk2 := va_Nw.use (A := args) rfl (hE.1 _ nw_14)
  have lk3 := hts (Cond.initialized RX1) (List.mem_of_getElem? (i := 12) rfl)
  have lk4 := hts (Cond.instanceMethod yX1_passing) (List.mem_of_getElem? (i := 11) rfl)
  have lk5 := hts (Cond.selects RX1 yX1_passing yX1_passing) (List.mem_of_getElem? (i := 13) rfl)
  have lk6 := hts (Cond.instanceMethod yX1_newOf) (List.mem_of_getElem? (i := 35) rfl)
  have lk7 := hts (Cond.selects RX1 yX1_newOf yX1_newOf) (List.mem_of_getElem? (i := 36) rfl)
  have lk8 := hts (Cond.instanceMethod yX1_worth) (List.mem_of_getElem? (i := 52) rfl)
  have lk9 := hts (Cond.selects RX1 yX1_worth yX1_worth) (List.mem_of_getElem? (i := 53) rfl)
  have lk10 := va_Nw.use (A := args) rfl (hE.1 _ nw_6)
  have hinX5 : ∀ w ∈ wsX50, w ∈ wsX5_stand := by decide +kernel
  have hinX4 : ∀ w ∈ wsX40, w ∈ wsX5_stand := by decide +kernel
  have hinX1 : ∀ w ∈ wsX10, w ∈ wsX5_stand := by decide +kernel
  have fin : ∀ (pc : Nat) (v : Int32) (u : ST_X5) (H : Heap) (locs : List Loc) (ls : Array Slot), some (v, u) = some out → va_P G.1 vwCl (ce_X5 G.2.1 a0 u) H → va_D A (ce_X5 G.2.1 a0 u) → va_S A s.heap H locs → decode cX5_stand pc = .ok (.ireturn, 1) → W p l e (headSpec wsX5_stand rm_X5_stand).room s m args below meth c H locs 0 0 (MQ below (QWr G (fun u => ce_X5 G.2.1 a0 u) out A) args s 0 0 A) (F0 m pc ls [.int v]) := fun pc v u H locs ls ho hP hD hS hd => W.iret (v := v) hx hb hr (fun t ht hW => ⟨⟨v, u, rfl, ob_pair ho, by first | (rw [ht]; exact hP) | (dsimp only; rw [ht]; exact hP), hD⟩, hS.F ht⟩) hS.2.2 hd
  generalize MQ below (QWr G (fun u => ce_X5 G.2.1 a0 u) out A) args s 0 0 A = Q at fin ⊢
  have go : ∀ (H : Heap) (locs : List Loc), va_P G.1 vwCl (ce_X5 G.2.1 a0 S0) H → va_D A (ce_X5 G.2.1 a0 S0) → va_S A s.heap H locs → ∀ (ls : Array Slot), lv_has ls 4 [(0, .ref a0.1), (1, .int p1)] → W p l e (headSpec wsX5_stand rm_X5_stand).room s m args below meth c H locs 0 0 Q (F0 m 0 ls []) := by
    intro H locs hP hD hS ls hl
    refine lv_iload_n hx hb dX5_stand_0 rfl (lv_at hl 1 rfl) ?_
    obtain ⟨r1, hr1, hf⟩ := ob_bind hf
    have hPc : va_P G.1 vwCl (([] : va_W)) H := hP.sub [] rfl
    have hDc : va_D A (([] : va_W)) := hD.sub [] (by decide) rfl
    have hFc := va_free (wc := ([] : va_W)) hD hS hA [] rfl
    refine zc_ro (va_runS (As := [.int p1]) (rest := []) ⟨hx, hb, hml, hown, hts⟩ (c_X5_isPlace l G H.size p1 _ hr1) (va_cwS 1 hts gX5_stand_X5_isPlace rfl rfl rfl (by decide +kernel) ⟨Nat.le_of_ble_eq_true rfl, Nat.le_of_ble_eq_true rfl⟩) ⟨PcM.blind, PcM.ok hPc hDc hK hE hS hFc⟩ rfl rfl hl.1 rfl (lv_room (Nat.le_of_ble_eq_true rfl)) dX5_stand_1 ⟨Nat.le_refl _, Nat.le_refl _⟩) hP hD hS hA [] rfl (fun H locs hP hS => ?_)
    refine lv_if_ne (tgt := 13) hx hb dX5_stand_4 (by decide) (fun c2 => ?_) (fun c2 => ?_)
    · replace hf := ob_neg c2 hf
      refine lv_aload_n hx hb dX5_stand_13 rfl (lv_at hl 0 rfl) ?_
      refine va_get (D := G.1) (ci := 5) (v := .ref a0.2.2.1.1) (C := RX5) (T := TX5) (N := 9) hx hb hts hinX5 hown hK hP 0 rfl rfl 1 (by decide) lk0 (fun _ h9 => h9) rfl dX5_stand_14 ?_
      refine va_getN (D := G.1) (ci := 4) (v := .int S0.2.1.2.2) (C := RX4) (T := TX4) (N := 3) hx hb hts hinX4 hown hK hP 3 rfl rfl 2 (by decide) lk1 (fun _ h9 => h9) rfl dX5_stand_17 ?_
      refine lv_sipush (v := 999) hx hb dX5_stand_20 (by decide) ?_
      refine lv_icmp_lt (tgt := 33) hx hb dX5_stand_23 (by decide) (fun c3 => ?_) (fun c3 => ?_)
      · replace hf := ob_pos c3 hf
        refine lv_aload_n hx hb dX5_stand_33 rfl (lv_at hl 0 rfl) ?_
        refine va_get (D := G.1) (ci := 5) (v := .ref a0.2.2.1.1) (C := RX5) (T := TX5) (N := 9) hx hb hts hinX5 hown hK hP 0 rfl rfl 1 (by decide) lk0 (fun _ h9 => h9) rfl dX5_stand_34 ?_
        refine va_getN (D := G.1) (ci := 4) (v := .ref a0.2.2.1.2.1.1) (C := RX4) (T := TX4) (N := 3) hx hb hts hinX4 hown hK hP 3 rfl rfl 0 (by decide) lk2 (fun _ h9 => h9) rfl dX5_stand_37 ?_
        refine lv_iload_n hx hb dX5_stand_40 rfl (lv_at hl 1 rfl) ?_
        refine lv_aload_n hx hb dX5_stand_41 rfl (lv_at hl 0 rfl) ?_
        refine va_get (D := G.1) (ci := 5) (v := .ref a0.2.2.1.1) (C := RX5) (T := TX5) (N := 9) hx hb hts hinX5 hown hK hP 0 rfl rfl 1 (by decide) lk0 (fun _ h9 => h9) rfl dX5_stand_42 ?_
        refine va_getN (D := G.1) (ci := 4) (v := .int S0.2.1.2.2) (C := RX4) (T := TX4) (N := 3) hx hb hts hinX4 hown hK hP 3 rfl rfl 2 (by decide) lk1 (fun _ h9 => h9) rfl dX5_stand_45 ?_
        obtain ⟨r4, hr4, hf⟩ := ob_bind hf
        have hPc : va_P G.1 vwCl (ce_X1 G.2.1 a0.2.2.1.2.1 S0.2.1.1) H := hP.sub [4, 5, 6, 7, 8, 9] rfl
        have hDc : va_D A (ce_X1 G.2.1 a0.2.2.1.2.1 S0.2.1.1) := hD.sub [4, 5, 6, 7, 8, 9] (by decide) rfl
        have hFc := va_free (wc := ce_X1 G.2.1 a0.2.2.1.2.1 S0.2.1.1) hD hS hA [4, 5, 6, 7, 8, 9] rfl
        refine zc_ro (va_runVN (As := [.int p1, .int S0.2.1.2.2]) (rest := []) ⟨hx, hb, hml, hown, hts⟩ (c_X1_passing l G a0.2.2.1.2.1 H.size S0.2.1.1 p1 S0.2.1.2.2 _ hr4) (⟨va_cnB 2 hts gX5_stand_X1_passing_n101 rfl rfl rfl (hE.1 _ nw_41) lk3 (by decide +kernel) ⟨Nat.le_of_ble_eq_true rfl, Nat.le_of_ble_eq_true rfl⟩, lk4, lk5⟩) ⟨PcM.blind, va_recv hK hPc (ci := 1) (q0 := 0) rfl rfl, PcM.ok hPc hDc hK hE hS hFc⟩ rfl rfl hl.1 rfl (lv_room (Nat.le_of_ble_eq_true rfl)) dX5_stand_48 ⟨Nat.le_refl _, Nat.le_refl _⟩) hP hD hS hA [4, 5, 6, 7, 8, 9] rfl (fun H locs hP hS => ?_)
        refine lv_istore_n (lv' := [(2, .int r4), (0, .ref a0.1), (1, .int p1)]) hx hb dX5_stand_51 rfl hl (by decide) rfl (fun ls hl => ?_)
        refine lv_aload_n hx hb dX5_stand_52 rfl (lv_at hl 1 rfl) ?_
        refine va_get (D := G.1) (ci := 5) (v := .ref a0.2.2.1.1) (C := RX5) (T := TX5) (N := 9) hx hb hts hinX5 hown hK hP 0 rfl rfl 1 (by decide) lk0 (fun _ h9 => h9) rfl dX5_stand_53 ?_
        refine va_getN (D := G.1) (ci := 4) (v := .ref a0.2.2.1.2.1.1) (C := RX4) (T := TX4) (N := 3) hx hb hts hinX4 hown hK hP 3 rfl rfl 0 (by decide) lk2 (fun _ h9 => h9) rfl dX5_stand_56 ?_
        refine lv_aload_n hx hb dX5_stand_59 rfl (lv_at hl 1 rfl) ?_
        refine va_get (D := G.1) (ci := 5) (v := .ref a0.2.2.1.1) (C := RX5) (T := TX5) (N := 9) hx hb hts hinX5 hown hK hP 0 rfl rfl 1 (by decide) lk0 (fun _ h9 => h9) rfl dX5_stand_60 ?_
        refine va_getN (D := G.1) (ci := 4) (v := .ref a0.2.2.1.2.1.1) (C := RX4) (T := TX4) (N := 3) hx hb hts hinX4 hown hK hP 3 rfl rfl 0 (by decide) lk2 (fun _ h9 => h9) rfl dX5_stand_63 ?_
        refine lv_iload_n hx hb dX5_stand_66 rfl (lv_at hl 0 rfl) ?_
        obtain ⟨r5, hr5, hf⟩ := ob_bind hf
        have hPc : va_P G.1 vwCl (ce_X1 G.2.1 a0.2.2.1.2.1 S0.2.1.1) H := hP.sub [4, 5, 6, 7, 8, 9] rfl
        have hDc : va_D A (ce_X1 G.2.1 a0.2.2.1.2.1 S0.2.1.1) := hD.sub [4, 5, 6, 7, 8, 9] (by decide) rfl
        have hFc := va_free (wc := ce_X1 G.2.1 a0.2.2.1.2.1 S0.2.1.1) hD hS hA [4, 5, 6, 7, 8, 9] rfl
        refine zc_ro (va_runVN (As := [.int r4]) (rest := [.ref a0.2.2.1.2.1.1]) ⟨hx, hb, hml, hown, hts⟩ (c_X1_newOf l G a0.2.2.1.2.1 H.size S0.2.1.1 r4 _ hr5) (⟨va_cnB 1 hts gX5_stand_X1_newOf_n107 rfl rfl rfl (hE.1 _ nw_42) lk3 (by decide +kernel) ⟨Nat.le_of_ble_eq_true rfl, Nat.le_of_ble_eq_true rfl⟩, lk6, lk7⟩) ⟨PcM.blind, va_recv hK hPc (ci := 1) (q0 := 0) rfl rfl, PcM.ok hPc hDc hK hE hS hFc⟩ rfl rfl hl.1 rfl (lv_room (Nat.le_of_ble_eq_true rfl)) dX5_stand_67 ⟨Nat.le_refl _, Nat.le_refl _⟩) hP hD hS hA [4, 5, 6, 7, 8, 9] rfl (fun H locs hP hS => ?_)
        obtain ⟨r6, hr6, hf⟩ := ob_bind hf
        have hPc : va_P G.1 vwCl (ce_X1 G.2.1 a0.2.2.1.2.1 S0.2.1.1) H := hP.sub [4, 5, 6, 7, 8, 9] rfl
        have hDc : va_D A (ce_X1 G.2.1 a0.2.2.1.2.1 S0.2.1.1) := hD.sub [4, 5, 6, 7, 8, 9] (by decide) rfl
        have hFc := va_free (wc := ce_X1 G.2.1 a0.2.2.1.2.1 S0.2.1.1) hD hS hA [4, 5, 6, 7, 8, 9] rfl
        refine zc_ro (va_runVN (As := [.int r5]) (rest := []) ⟨hx, hb, hml, hown, hts⟩ (c_X1_worth l G a0.2.2.1.2.1 H.size S0.2.1.1 r5 _ hr6) (⟨va_cnB 1 hts gX5_stand_X1_worth_n110 rfl rfl rfl (hE.1 _ nw_43) lk3 (by decide +kernel) ⟨Nat.le_of_ble_eq_true rfl, Nat.le_of_ble_eq_true rfl⟩, lk8, lk9⟩) ⟨PcM.blind, va_recv hK hPc (ci := 1) (q0 := 0) rfl rfl, PcM.ok hPc hDc hK hE hS hFc⟩ rfl rfl hl.1 rfl (lv_room (Nat.le_of_ble_eq_true rfl)) dX5_stand_70 ⟨Nat.le_refl _, Nat.le_refl _⟩) hP hD hS hA [4, 5, 6, 7, 8, 9] rfl (fun H locs hP hS => ?_)
        refine lv_istore_n (lv' := [(3, .int r6), (2, .int r4), (0, .ref a0.1), (1, .int p1)]) hx hb dX5_stand_73 rfl hl (by decide) rfl (fun ls hl => ?_)
        refine lv_aload_n hx hb dX5_stand_74 rfl (lv_at hl 2 rfl) ?_
        refine va_get (D := G.1) (ci := 5) (v := .ref a0.2.2.1.1) (C := RX5) (T := TX5) (N := 9) hx hb hts hinX5 hown hK hP 0 rfl rfl 1 (by decide) lk0 (fun _ h9 => h9) rfl dX5_stand_75 ?_
        refine va_getN (D := G.1) (ci := 4) (v := .ref a0.2.2.1.2.1.1) (C := RX4) (T := TX4) (N := 3) hx hb hts hinX4 hown hK hP 3 rfl rfl 0 (by decide) lk2 (fun _ h9 => h9) rfl dX5_stand_78 ?_
        refine lv_dup hx hb dX5_stand_81 rfl ?_
        refine va_getN (D := G.1) (ci := 1) (v := .int S0.2.1.1.2.2.2.2.2.2.2.1) (C := RX1) (T := TX1) (N := 9) hx hb hts hinX1 hown hK hP 4 rfl rfl 7 (by decide) lk10 (fun _ h9 => h9) rfl dX5_stand_82 ?_
        refine lv_iload_n hx hb dX5_stand_85 rfl (lv_at hl 1 rfl) ?_
        refine lv_ior hx hb dX5_stand_86 ?_
        refine va_putN (D := G.1) (ci := 1) (v := .int (S0.2.1.1.2.2.2.2.2.2.2.1 ||| r4)) (ty := .int) (C := RX1) (T := TX1) (N := 9) hx hb hts hinX1 tyX1 tyX1_ok nmX1 hown hK hP hD hS 4 rfl rfl 7 (by decide) lk10 (fun _ h9 => h9) rfl (by decide +kernel) rfl rfl (Nat.le_of_ble_eq_true rfl) dX5_stand_87 (fun H locs hP hD hS => ?_)
        have hP : va_P G.1 vwCl (ce_X5 G.2.1 a0 (S0.1, ((S0.2.1.1.1, S0.2.1.1.2.1, S0.2.1.1.2.2.1, S0.2.1.1.2.2.2.1, S0.2.1.1.2.2.2.2.1, S0.2.1.1.2.2.2.2.2.1, S0.2.1.1.2.2.2.2.2.2.1, S0.2.1.1.2.2.2.2.2.2.2.1 ||| r4, S0.2.1.1.2.2.2.2.2.2.2.2), S0.2.1.2.1, S0.2.1.2.2), S0.2.2.1, S0.2.2.2.1, S0.2.2.2.2.1, S0.2.2.2.2.2.1, S0.2.2.2.2.2.2.1, S0.2.2.2.2.2.2.2.1, S0.2.2.2.2.2.2.2.2)) H := hP
        have hD : va_D A (ce_X5 G.2.1 a0 (S0.1, ((S0.2.1.1.1, S0.2.1.1.2.1, S0.2.1.1.2.2.1, S0.2.1.1.2.2.2.1, S0.2.1.1.2.2.2.2.1, S0.2.1.1.2.2.2.2.2.1, S0.2.1.1.2.2.2.2.2.2.1, S0.2.1.1.2.2.2.2.2.2.2.1 ||| r4, S0.2.1.1.2.2.2.2.2.2.2.2), S0.2.1.2.1, S0.2.1.2.2), S0.2.2.1, S0.2.2.2.1, S0.2.2.2.2.1, S0.2.2.2.2.2.1, S0.2.2.2.2.2.2.1, S0.2.2.2.2.2.2.2.1, S0.2.2.2.2.2.2.2.2)) := hD
        refine lv_aload_n hx hb dX5_stand_90 rfl (lv_at hl 2 rfl) ?_
        refine va_get (D := G.1) (ci := 5) (v := .ref a0.2.2.1.1) (C := RX5) (T := TX5) (N := 9) hx hb hts hinX5 hown hK hP 0 rfl rfl 1 (by decide) lk0 (fun _ h9 => h9) rfl dX5_stand_91 ?_
        refine lv_dup hx hb dX5_stand_94 rfl ?_
        refine va_getN (D := G.1) (ci := 4) (v := .int S0.2.1.2.2) (C := RX4) (T := TX4) (N := 3) hx hb hts hinX4 hown hK hP 3 rfl rfl 2 (by decide) lk1 (fun _ h9 => h9) rfl dX5_stand_95 ?_
        refine lv_iconst (v := 1) hx hb dX5_stand_98 (by decide) ?_
        refine lv_iadd hx hb dX5_stand_99 ?_
        refine va_putN (D := G.1) (ci := 4) (v := .int (S0.2.1.2.2 + 1)) (ty := .int) (C := RX4) (T := TX4) (N := 3) hx hb hts hinX4 tyX4 tyX4_ok nmX4 hown hK hP hD hS 3 rfl rfl 2 (by decide) lk1 (fun _ h9 => h9) rfl (by decide +kernel) rfl rfl (Nat.le_of_ble_eq_true rfl) dX5_stand_100 (fun H locs hP hD hS => ?_)
        have hP : va_P G.1 vwCl (ce_X5 G.2.1 a0 (S0.1, ((S0.2.1.1.1, S0.2.1.1.2.1, S0.2.1.1.2.2.1, S0.2.1.1.2.2.2.1, S0.2.1.1.2.2.2.2.1, S0.2.1.1.2.2.2.2.2.1, S0.2.1.1.2.2.2.2.2.2.1, S0.2.1.1.2.2.2.2.2.2.2.1 ||| r4, S0.2.1.1.2.2.2.2.2.2.2.2), S0.2.1.2.1, S0.2.1.2.2 + 1), S0.2.2.1, S0.2.2.2.1, S0.2.2.2.2.1, S0.2.2.2.2.2.1, S0.2.2.2.2.2.2.1, S0.2.2.2.2.2.2.2.1, S0.2.2.2.2.2.2.2.2)) H := hP
        have hD : va_D A (ce_X5 G.2.1 a0 (S0.1, ((S0.2.1.1.1, S0.2.1.1.2.1, S0.2.1.1.2.2.1, S0.2.1.1.2.2.2.1, S0.2.1.1.2.2.2.2.1, S0.2.1.1.2.2.2.2.2.1, S0.2.1.1.2.2.2.2.2.2.1, S0.2.1.1.2.2.2.2.2.2.2.1 ||| r4, S0.2.1.1.2.2.2.2.2.2.2.2), S0.2.1.2.1, S0.2.1.2.2 + 1), S0.2.2.1, S0.2.2.2.1, S0.2.2.2.2.1, S0.2.2.2.2.2.1, S0.2.2.2.2.2.2.1, S0.2.2.2.2.2.2.2.1, S0.2.2.2.2.2.2.2.2)) := hD
        refine lv_iload_n hx hb dX5_stand_103 rfl (lv_at hl 0 rfl) ?_
        exact fin _ _ _ _ _ _ hf hP hD hS dX5_stand_104
      · replace hf := ob_neg c3 hf
        refine lv_aload_n hx hb dX5_stand_26 rfl (lv_at hl 0 rfl) ?_
        refine lv_bipush (v := (-6)) hx hb dX5_stand_27 (by decide) ?_
        obtain ⟨r7, hr7, hf⟩ := ob_bind hf
        have hFc := va_free (wc := ce_X5 G.2.1 a0 S0) hD hS hA [0, 1, 2, 3, 4, 5, 6, 7, 8, 9, 10, 11, 12, 13, 14, 15, 16, 17, 18, 19, 20, 21, 22, 23, 24, 25, 26, 27, 28, 29, 30, 31, 32, 33, 34, 35, 36, 37, 38] rfl
        refine zc_wr (cf := (fun u => ce_X5 G.2.1 a0 u)) (ws' := ce_X5 G.2.1 a0 r7.2) (va_runV (As := [.int (-6)]) (rest := []) ⟨hx, hb, hml, hown, hts⟩ (c_X5_refuse l G a0 H.size S0 (-6) _ hr7) (cwV 1 hts gX5_stand_X5_refuse rfl rfl rfl (by decide +kernel) ⟨Nat.le_of_ble_eq_true rfl, Nat.le_of_ble_eq_true rfl⟩) ⟨PcM.blind, va_recv hK hP (ci := 5) (q0 := 0) rfl rfl, PcM.ok hP hD hK hE hS hFc⟩ rfl rfl hl.1 rfl (lv_room (Nat.le_of_ble_eq_true rfl)) dX5_stand_29 ⟨Nat.le_refl _, Nat.le_refl _⟩) hP hD hS hA [0, 1, 2, 3, 4, 5, 6, 7, 8, 9, 10, 11, 12, 13, 14, 15, 16, 17, 18, 19, 20, 21, 22, 23, 24, 25, 26, 27, 28, 29, 30, 31, 32, 33, 34, 35, 36, 37, 38] [] [0, 1, 2, 3, 4, 5, 6, 7, 8, 9, 10, 11, 12, 13, 14, 15, 16, 17, 18, 19, 20, 21, 22, 23, 24, 25, 26, 27, 28, 29, 30, 31, 32, 33, 34, 35, 36, 37, 38] rfl rfl (by decide) (by decide) (by decide) rfl (fun H locs hP hD hS => ?_)
        exact fin _ _ _ _ _ _ hf hP hD hS dX5_stand_32
    · replace hf := ob_pos c2 hf
      refine lv_aload_n hx hb dX5_stand_7 rfl (lv_at hl 0 rfl) ?_
      refine lv_iconst (v := (-1)) hx hb dX5_stand_8 (by decide) ?_
      obtain ⟨r8, hr8, hf⟩ := ob_bind hf
      have hFc := va_free (wc := ce_X5 G.2.1 a0 S0) hD hS hA [0, 1, 2, 3, 4, 5, 6, 7, 8, 9, 10, 11, 12, 13, 14, 15, 16, 17, 18, 19, 20, 21, 22, 23, 24, 25, 26, 27, 28, 29, 30, 31, 32, 33, 34, 35, 36, 37, 38] rfl
      refine zc_wr (cf := (fun u => ce_X5 G.2.1 a0 u)) (ws' := ce_X5 G.2.1 a0 r8.2) (va_runV (As := [.int (-1)]) (rest := []) ⟨hx, hb, hml, hown, hts⟩ (c_X5_refuse l G a0 H.size S0 (-1) _ hr8) (cwV 1 hts gX5_stand_X5_refuse rfl rfl rfl (by decide +kernel) ⟨Nat.le_of_ble_eq_true rfl, Nat.le_of_ble_eq_true rfl⟩) ⟨PcM.blind, va_recv hK hP (ci := 5) (q0 := 0) rfl rfl, PcM.ok hP hD hK hE hS hFc⟩ rfl rfl hl.1 rfl (lv_room (Nat.le_of_ble_eq_true rfl)) dX5_stand_9 ⟨Nat.le_refl _, Nat.le_refl _⟩) hP hD hS hA [0, 1, 2, 3, 4, 5, 6, 7, 8, 9, 10, 11, 12, 13, 14, 15, 16, 17, 18, 19, 20, 21, 22, 23, 24, 25, 26, 27, 28, 29, 30, 31, 32, 33, 34, 35, 36, 37, 38] [] [0, 1, 2, 3, 4, 5, 6, 7, 8, 9, 10, 11, 12, 13, 14, 15, 16, 17, 18, 19, 20, 21, 22, 23, 24, 25, 26, 27, 28, 29, 30, 31, 32, 33, 34, 35, 36, 37, 38] rfl rfl (by decide) (by decide) (by decide) rfl (fun H locs hP hD hS => ?_)
      exact fin _ _ _ _ _ _ hf hP hD hS dX5_stand_12
  exact go _ _ hP hD hS _ hl
abbrev rm_X5_rest : Room := { frames := 2, cells := 0, slots := 0, locals := 45 }
set_option maxHeartbeats 4000000 in
set_option maxRecDepth 100000 in
theorem c_X5_rest (l : Launch) (G : zG) (a0 : AT_X5) (sz : Nat) (S0 : ST_X5) (p1 : Int32) (out : Int32 × ST_X5) (hf : f_X5_rest S0 p1 = some out) : Met l yX5_rest wsX5_rest rm_X5_rest (PcM G (ce_X5 G.2.1 a0 S0) [.ref a0.1, .int p1] sz) (QWr G (fun u => ce_X5 G.2.1 a0 u) out (va_A (ce_X5 G.2.1 a0 S0) sz)) 0 0 (va_A (ce_X5 G.2.1 a0 S0) sz) := by
  rw [f_X5_rest] at hf
  refine Met.ofW (cc := cX5_rest) (maxL := 2) (ret := (some .int)) (by decide) rfl ?_
  intro p e s m args below meth c s₁ B hml hv
  obtain ⟨hargs, hsz, hP, hK, hD0, hE⟩ := hv
  have hx := B.exec
  have hb := B.bytes
  have hr := B.returns
  have hts := atoms_spec (ws := wsX5_rest) B.pre
  have hown : s.vm.findClass RX5 = some m.cls := findClass_of_methodNamed B.named
  have hlocks := B.notSynchronized
  subst hsz
  have hD := hD0.self (sz := s.heap.size)
  generalize hAe : va_A (ce_X5 G.2.1 a0 S0) s.heap.size = A at hD hE ⊢
  have hA : ∀ q : Nat, s.heap.size ≤ q → A q := fun q h => by rw [← hAe]; exact Or.inr h
  have hS : va_S A s.heap s.heap [] := va_S.rf
  have hl := lv_entry ([.ref a0.1, .int p1]) (n := 2) (Nat.le_of_ble_eq_true rfl)
  have hent : entryFrame m args 2 = F0 m 0 ((lg_sl ([.ref a0.1, .int p1]) ++ List.replicate (2 - (lg_sl ([.ref a0.1, .int p1])).length) Slot.unset).toArray) [] := by rw [hargs, lg_entry_eq]
  rw [hent]
  clear hent
  generalize (lg_sl ([.ref a0.1, .int p1]) ++ List.replicate (2 - (lg_sl ([.ref a0.1, .int p1])).length) Slot.unset).toArray = ls at hl ⊢
  have hl : lv_has ls 2 [(0, .ref a0.1), (1, .int p1)] := hl
  have lk0 := hts (Cond.fieldLink RX5 19 "EnginesOnList" "now" "LEnginesOnList$World;") (List.mem_of_getElem? (i := 1) rfl)
  have lk1 := va_Nw.use (A := args) rfl (hE.1 _ nw_17)
  have hinX5 : ∀ w ∈ wsX50, w ∈ wsX5_rest := by decide +kernel
  have hinX4 : ∀ w ∈ wsX40, w ∈ wsX5_rest := by decide +kernel
  have fin : ∀ (pc : Nat) (v : Int32) (u : ST_X5) (H : Heap) (locs : List Loc) (ls : Array Slot), some (v, u) = some out → va_P G.1 vwCl (ce_X5 G.2.1 a0 u) H → va_D A (ce_X5 G.2.1 a0 u) → va_S A s.heap H locs → decode cX5_rest pc = .ok (.ireturn, 1) → W p l e (headSpec wsX5_rest rm_X5_rest).room s m args below meth c H locs 0 0 (MQ below (QWr G (fun u => ce_X5 G.2.1 a0 u) out A) args s 0 0 A) (F0 m pc ls [.int v]) := fun pc v u H locs ls ho hP hD hS hd => W.iret (v := v) hx hb hr (fun t ht hW => ⟨⟨v, u, rfl, ob_pair ho, by first | (rw [ht]; exact hP) | (dsimp only; rw [ht]; exact hP), hD⟩, hS.F ht⟩) hS.2.2 hd
  generalize MQ below (QWr G (fun u => ce_X5 G.2.1 a0 u) out A) args s 0 0 A = Q at fin ⊢
  have blk33 : ∀ (S0 : ST_X5), f_X5_rest_b33 S0 = some out → ∀ (H : Heap) (locs : List Loc), va_P G.1 vwCl (ce_X5 G.2.1 a0 S0) H → va_D A (ce_X5 G.2.1 a0 S0) → va_S A s.heap H locs → ∀ (ls : Array Slot), lv_has ls 2 [(0, .ref a0.1)] → W p l e (headSpec wsX5_rest rm_X5_rest).room s m args below meth c H locs 0 0 Q (F0 m 33 ls []) := by
    intro S0 hf H locs hP hD hS ls hl
    rw [f_X5_rest_b33] at hf
    refine lv_aload_n hx hb dX5_rest_33 rfl (lv_at hl 0 rfl) ?_
    refine lv_bipush (v := (-6)) hx hb dX5_rest_34 (by decide) ?_
    obtain ⟨r1, hr1, hf⟩ := ob_bind hf
    have hFc := va_free (wc := ce_X5 G.2.1 a0 S0) hD hS hA [0, 1, 2, 3, 4, 5, 6, 7, 8, 9, 10, 11, 12, 13, 14, 15, 16, 17, 18, 19, 20, 21, 22, 23, 24, 25, 26, 27, 28, 29, 30, 31, 32, 33, 34, 35, 36, 37, 38] rfl
    refine zc_wr (cf := (fun u => ce_X5 G.2.1 a0 u)) (ws' := ce_X5 G.2.1 a0 r1.2) (va_runV (As := [.int (-6)]) (rest := []) ⟨hx, hb, hml, hown, hts⟩ (c_X5_refuse l G a0 H.size S0 (-6) _ hr1) (cwV 1 hts gX5_rest_X5_refuse rfl rfl rfl (by decide +kernel) ⟨Nat.le_of_ble_eq_true rfl, Nat.le_of_ble_eq_true rfl⟩) ⟨PcM.blind, va_recv hK hP (ci := 5) (q0 := 0) rfl rfl, PcM.ok hP hD hK hE hS hFc⟩ rfl rfl hl.1 rfl (lv_room (Nat.le_of_ble_eq_true rfl)) dX5_rest_36 ⟨Nat.le_refl _, Nat.le_refl _⟩) hP hD hS hA [0, 1, 2, 3, 4, 5, 6, 7, 8, 9, 10, 11, 12, 13, 14, 15, 16, 17, 18, 19, 20, 21, 22, 23, 24, 25, 26, 27, 28, 29, 30, 31, 32, 33, 34, 35, 36, 37, 38] [] [0, 1, 2, 3, 4, 5, 6, 7, 8, 9, 10, 11, 12, 13, 14, 15, 16, 17, 18, 19, 20, 21, 22, 23, 24, 25, 26, 27, 28, 29, 30, 31, 32, 33, 34, 35, 36, 37, 38] rfl rfl (by decide) (by decide) (by decide) rfl (fun H locs hP hD hS => ?_)
    exact fin _ _ _ _ _ _ hf hP hD hS dX5_rest_39
  have go : ∀ (H : Heap) (locs : List Loc), va_P G.1 vwCl (ce_X5 G.2.1 a0 S0) H → va_D A (ce_X5 G.2.1 a0 S0) → va_S A s.heap H locs → ∀ (ls : Array Slot), lv_has ls 2 [(0, .ref a0.1), (1, .int p1)] → W p l e (headSpec wsX5_rest rm_X5_rest).room s m args below meth c H locs 0 0 Q (F0 m 0 ls []) := by
    intro H locs hP hD hS ls hl
    refine lv_iload_n hx hb dX5_rest_0 rfl (lv_at hl 1 rfl) ?_
    refine lv_iconst (v := 1) hx hb dX5_rest_1 (by decide) ?_
    refine lv_icmp_ge (tgt := 12) hx hb dX5_rest_2 (by decide) (fun c2 => ?_) (fun c2 => ?_)
    · replace hf := ob_pos c2 hf
      refine lv_iload_n hx hb dX5_rest_12 rfl (lv_at hl 1 rfl) ?_
      refine lv_bipush (v := 60) hx hb dX5_rest_13 (by decide) ?_
      refine lv_icmp_gt (tgt := 33) hx hb dX5_rest_15 (by decide) (fun c3 => ?_) (fun c3 => ?_)
      · replace hf := ob_pos c3 hf
        exact blk33 _ hf _ _ hP hD hS _ (lv_sub hl [0] rfl)
      · replace hf := ob_neg c3 hf
        refine lv_aload_n hx hb dX5_rest_18 rfl (lv_at hl 0 rfl) ?_
        refine va_get (D := G.1) (ci := 5) (v := .ref a0.2.2.1.1) (C := RX5) (T := TX5) (N := 9) hx hb hts hinX5 hown hK hP 0 rfl rfl 1 (by decide) lk0 (fun _ h9 => h9) rfl dX5_rest_19 ?_
        refine va_getN (D := G.1) (ci := 4) (v := .int S0.2.1.2.2) (C := RX4) (T := TX4) (N := 3) hx hb hts hinX4 hown hK hP 3 rfl rfl 2 (by decide) lk1 (fun _ h9 => h9) rfl dX5_rest_22 ?_
        refine lv_iload_n hx hb dX5_rest_25 rfl (lv_at hl 1 rfl) ?_
        refine lv_iadd hx hb dX5_rest_26 ?_
        refine lv_sipush (v := 999) hx hb dX5_rest_27 (by decide) ?_
        refine lv_icmp_le (tgt := 40) hx hb dX5_rest_30 (by decide) (fun c4 => ?_) (fun c4 => ?_)
        · replace hf := ob_pos c4 hf
          refine lv_aload_n hx hb dX5_rest_40 rfl (lv_at hl 0 rfl) ?_
          refine va_get (D := G.1) (ci := 5) (v := .ref a0.2.2.1.1) (C := RX5) (T := TX5) (N := 9) hx hb hts hinX5 hown hK hP 0 rfl rfl 1 (by decide) lk0 (fun _ h9 => h9) rfl dX5_rest_41 ?_
          refine lv_dup hx hb dX5_rest_44 rfl ?_
          refine va_getN (D := G.1) (ci := 4) (v := .int S0.2.1.2.2) (C := RX4) (T := TX4) (N := 3) hx hb hts hinX4 hown hK hP 3 rfl rfl 2 (by decide) lk1 (fun _ h9 => h9) rfl dX5_rest_45 ?_
          refine lv_iload_n hx hb dX5_rest_48 rfl (lv_at hl 1 rfl) ?_
          refine lv_iadd hx hb dX5_rest_49 ?_
          refine va_putN (D := G.1) (ci := 4) (v := .int (S0.2.1.2.2 + p1)) (ty := .int) (C := RX4) (T := TX4) (N := 3) hx hb hts hinX4 tyX4 tyX4_ok nmX4 hown hK hP hD hS 3 rfl rfl 2 (by decide) lk1 (fun _ h9 => h9) rfl (by decide +kernel) rfl rfl (Nat.le_of_ble_eq_true rfl) dX5_rest_50 (fun H locs hP hD hS => ?_)
          have hP : va_P G.1 vwCl (ce_X5 G.2.1 a0 (S0.1, (S0.2.1.1, S0.2.1.2.1, S0.2.1.2.2 + p1), S0.2.2.1, S0.2.2.2.1, S0.2.2.2.2.1, S0.2.2.2.2.2.1, S0.2.2.2.2.2.2.1, S0.2.2.2.2.2.2.2.1, S0.2.2.2.2.2.2.2.2)) H := hP
          have hD : va_D A (ce_X5 G.2.1 a0 (S0.1, (S0.2.1.1, S0.2.1.2.1, S0.2.1.2.2 + p1), S0.2.2.1, S0.2.2.2.1, S0.2.2.2.2.1, S0.2.2.2.2.2.1, S0.2.2.2.2.2.2.1, S0.2.2.2.2.2.2.2.1, S0.2.2.2.2.2.2.2.2)) := hD
          refine lv_aload_n hx hb dX5_rest_53 rfl (lv_at hl 0 rfl) ?_
          refine va_get (D := G.1) (ci := 5) (v := .ref a0.2.2.1.1) (C := RX5) (T := TX5) (N := 9) hx hb hts hinX5 hown hK hP 0 rfl rfl 1 (by decide) lk0 (fun _ h9 => h9) rfl dX5_rest_54 ?_
          refine va_getN (D := G.1) (ci := 4) (v := .int (S0.2.1.2.2 + p1)) (C := RX4) (T := TX4) (N := 3) hx hb hts hinX4 hown hK hP 3 rfl rfl 2 (by decide) lk1 (fun _ h9 => h9) rfl dX5_rest_57 ?_
          exact fin _ _ _ _ _ _ hf hP hD hS dX5_rest_60
        · replace hf := ob_neg c4 hf
          exact blk33 _ hf _ _ hP hD hS _ (lv_sub hl [0] rfl)
    · replace hf := ob_neg c2 hf
      refine lv_aload_n hx hb dX5_rest_5 rfl (lv_at hl 0 rfl) ?_
      refine lv_bipush (v := (-4)) hx hb dX5_rest_6 (by decide) ?_
      obtain ⟨r5, hr5, hf⟩ := ob_bind hf
      have hFc := va_free (wc := ce_X5 G.2.1 a0 S0) hD hS hA [0, 1, 2, 3, 4, 5, 6, 7, 8, 9, 10, 11, 12, 13, 14, 15, 16, 17, 18, 19, 20, 21, 22, 23, 24, 25, 26, 27, 28, 29, 30, 31, 32, 33, 34, 35, 36, 37, 38] rfl
      refine zc_wr (cf := (fun u => ce_X5 G.2.1 a0 u)) (ws' := ce_X5 G.2.1 a0 r5.2) (va_runV (As := [.int (-4)]) (rest := []) ⟨hx, hb, hml, hown, hts⟩ (c_X5_refuse l G a0 H.size S0 (-4) _ hr5) (cwV 1 hts gX5_rest_X5_refuse rfl rfl rfl (by decide +kernel) ⟨Nat.le_of_ble_eq_true rfl, Nat.le_of_ble_eq_true rfl⟩) ⟨PcM.blind, va_recv hK hP (ci := 5) (q0 := 0) rfl rfl, PcM.ok hP hD hK hE hS hFc⟩ rfl rfl hl.1 rfl (lv_room (Nat.le_of_ble_eq_true rfl)) dX5_rest_8 ⟨Nat.le_refl _, Nat.le_refl _⟩) hP hD hS hA [0, 1, 2, 3, 4, 5, 6, 7, 8, 9, 10, 11, 12, 13, 14, 15, 16, 17, 18, 19, 20, 21, 22, 23, 24, 25, 26, 27, 28, 29, 30, 31, 32, 33, 34, 35, 36, 37, 38] [] [0, 1, 2, 3, 4, 5, 6, 7, 8, 9, 10, 11, 12, 13, 14, 15, 16, 17, 18, 19, 20, 21, 22, 23, 24, 25, 26, 27, 28, 29, 30, 31, 32, 33, 34, 35, 36, 37, 38] rfl rfl (by decide) (by decide) (by decide) rfl (fun H locs hP hD hS => ?_)
      exact fin _ _ _ _ _ _ hf hP hD hS dX5_rest_11
  exact go _ _ hP hD hS _ hl
abbrev rm_X5_underline : Room := { frames := 2, cells := 0, slots := 0, locals := 45 }
set_option maxHeartbeats 4000000 in
set_option maxRecDepth 100000 in
theorem c_X5_underline (l : Launch) (G : zG) (a0 : AT_X5) (sz : Nat) (S0 : ST_X5) (p1 : Int32) (p2 : Int32) (out : Int32 × ST_X5) (hf : f_X5_underline S0 p1 p2 = some out) : Met l yX5_underline wsX5_underline rm_X5_underline (PcM G (ce_X5 G.2.1 a0 S0) [.ref a0.1, .int p1, .int p2] sz) (QWr G (fun u => ce_X5 G.2.1 a0 u) out (va_A (ce_X5 G.2.1 a0 S0) sz)) 0 0 (va_A (ce_X5 G.2.1 a0 S0) sz) := by
  rw [f_X5_underline] at hf
  refine Met.ofW (cc := cX5_underline) (maxL := 5) (ret := (some .int)) (by decide) rfl ?_
  intro p e s m args below meth c s₁ B hml hv
  obtain ⟨hargs, hsz, hP, hK, hD0, hE⟩ := hv
  have hx := B.exec
  have hb := B.bytes
  have hr := B.returns
  have hts := atoms_spec (ws := wsX5_underline) B.pre
  have hown : s.vm.findClass RX5 = some m.cls := findClass_of_methodNamed B.named
  have hlocks := B.notSynchronized
  subst hsz
  have hD := hD0.self (sz := s.heap.size)
  generalize hAe : va_A (ce_X5 G.2.1 a0 S0) s.heap.size = A at hD hE ⊢
  have hA : ∀ q : Nat, s.heap.size ≤ q → A q := fun q h => by rw [← hAe]; exact Or.inr h
  have hS : va_S A s.heap s.heap [] := va_S.rf
  have hl := lv_entry ([.ref a0.1, .int p1, .int p2]) (n := 5) (Nat.le_of_ble_eq_true rfl)
  have hent : entryFrame m args 5 = F0 m 0 ((lg_sl ([.ref a0.1, .int p1, .int p2]) ++ List.replicate (5 - (lg_sl ([.ref a0.1, .int p1, .int p2])).length) Slot.unset).toArray) [] := by rw [hargs, lg_entry_eq]
  rw [hent]
  clear hent
  generalize (lg_sl ([.ref a0.1, .int p1, .int p2]) ++ List.replicate (5 - (lg_sl ([.ref a0.1, .int p1, .int p2])).length) Slot.unset).toArray = ls at hl ⊢
  have hl : lv_has ls 5 [(0, .ref a0.1), (1, .int p1), (2, .int p2)] := hl
  have lk0 := hts (Cond.fieldLink RX5 19 "EnginesOnList" "now" "LEnginesOnList$World;") (List.mem_of_getElem? (i := 1) rfl)
  have lk1 := va_Nw.use (A := args) rfl (hE.1 _ nw_14)
  have lk2 := hts (Cond.initialized RX1) (List.mem_of_getElem? (i := 3) rfl)
  have lk3 := hts (Cond.instanceMethod yX1_knows) (List.mem_of_getElem? (i := 2) rfl)
  have lk4 := hts (Cond.selects RX1 yX1_knows yX1_knows) (List.mem_of_getElem? (i := 4) rfl)
  have lk5 := va_Nw.use (A := args) rfl (hE.1 _ nw_6)
  have hinX5 : ∀ w ∈ wsX50, w ∈ wsX5_underline := by decide +kernel
  have hinX4 : ∀ w ∈ wsX40, w ∈ wsX5_underline := by decide +kernel
  have hinX1 : ∀ w ∈ wsX10, w ∈ wsX5_underline := by decide +kernel
  have fin : ∀ (pc : Nat) (v : Int32) (u : ST_X5) (H : Heap) (locs : List Loc) (ls : Array Slot), some (v, u) = some out → va_P G.1 vwCl (ce_X5 G.2.1 a0 u) H → va_D A (ce_X5 G.2.1 a0 u) → va_S A s.heap H locs → decode cX5_underline pc = .ok (.ireturn, 1) → W p l e (headSpec wsX5_underline rm_X5_underline).room s m args below meth c H locs 0 0 (MQ below (QWr G (fun u => ce_X5 G.2.1 a0 u) out A) args s 0 0 A) (F0 m pc ls [.int v]) := fun pc v u H locs ls ho hP hD hS hd => W.iret (v := v) hx hb hr (fun t ht hW => ⟨⟨v, u, rfl, ob_pair ho, by first | (rw [ht]; exact hP) | (dsimp only; rw [ht]; exact hP), hD⟩, hS.F ht⟩) hS.2.2 hd
  generalize MQ below (QWr G (fun u => ce_X5 G.2.1 a0 u) out A) args s 0 0 A = Q at fin ⊢
  have blk31 : ∀ (S0 : ST_X5), f_X5_underline_b31 S0 = some out → ∀ (H : Heap) (locs : List Loc), va_P G.1 vwCl (ce_X5 G.2.1 a0 S0) H → va_D A (ce_X5 G.2.1 a0 S0) → va_S A s.heap H locs → ∀ (ls : Array Slot), lv_has ls 5 [(0, .ref a0.1)] → W p l e (headSpec wsX5_underline rm_X5_underline).room s m args below meth c H locs 0 0 Q (F0 m 31 ls []) := by
    intro S0 hf H locs hP hD hS ls hl
    rw [f_X5_underline_b31] at hf
    refine lv_aload_n hx hb dX5_underline_31 rfl (lv_at hl 0 rfl) ?_
    refine lv_bipush (v := (-2)) hx hb dX5_underline_32 (by decide) ?_
    obtain ⟨r1, hr1, hf⟩ := ob_bind hf
    have hFc := va_free (wc := ce_X5 G.2.1 a0 S0) hD hS hA [0, 1, 2, 3, 4, 5, 6, 7, 8, 9, 10, 11, 12, 13, 14, 15, 16, 17, 18, 19, 20, 21, 22, 23, 24, 25, 26, 27, 28, 29, 30, 31, 32, 33, 34, 35, 36, 37, 38] rfl
    refine zc_wr (cf := (fun u => ce_X5 G.2.1 a0 u)) (ws' := ce_X5 G.2.1 a0 r1.2) (va_runV (As := [.int (-2)]) (rest := []) ⟨hx, hb, hml, hown, hts⟩ (c_X5_refuse l G a0 H.size S0 (-2) _ hr1) (cwV 1 hts gX5_underline_X5_refuse rfl rfl rfl (by decide +kernel) ⟨Nat.le_of_ble_eq_true rfl, Nat.le_of_ble_eq_true rfl⟩) ⟨PcM.blind, va_recv hK hP (ci := 5) (q0 := 0) rfl rfl, PcM.ok hP hD hK hE hS hFc⟩ rfl rfl hl.1 rfl (lv_room (Nat.le_of_ble_eq_true rfl)) dX5_underline_34 ⟨Nat.le_refl _, Nat.le_refl _⟩) hP hD hS hA [0, 1, 2, 3, 4, 5, 6, 7, 8, 9, 10, 11, 12, 13, 14, 15, 16, 17, 18, 19, 20, 21, 22, 23, 24, 25, 26, 27, 28, 29, 30, 31, 32, 33, 34, 35, 36, 37, 38] [] [0, 1, 2, 3, 4, 5, 6, 7, 8, 9, 10, 11, 12, 13, 14, 15, 16, 17, 18, 19, 20, 21, 22, 23, 24, 25, 26, 27, 28, 29, 30, 31, 32, 33, 34, 35, 36, 37, 38] rfl rfl (by decide) (by decide) (by decide) rfl (fun H locs hP hD hS => ?_)
    exact fin _ _ _ _ _ _ hf hP hD hS dX5_underline_37
  have go : ∀ (H : Heap) (locs : List Loc), va_P G.1 vwCl (ce_X5 G.2.1 a0 S0) H → va_D A (ce_X5 G.2.1 a0 S0) → va_S A s.heap H locs → ∀ (ls : Array Slot), lv_has ls 5 [(0, .ref a0.1), (1, .int p1), (2, .int p2)] → W p l e (headSpec wsX5_underline rm_X5_underline).room s m args below meth c H locs 0 0 Q (F0 m 0 ls []) := by
    intro H locs hP hD hS ls hl
    refine lv_aload_n hx hb dX5_underline_0 rfl (lv_at hl 0 rfl) ?_
    refine va_get (D := G.1) (ci := 5) (v := .ref a0.2.2.1.1) (C := RX5) (T := TX5) (N := 9) hx hb hts hinX5 hown hK hP 0 rfl rfl 1 (by decide) lk0 (fun _ h9 => h9) rfl dX5_underline_1 ?_
    refine va_getN (D := G.1) (ci := 4) (v := .ref a0.2.2.1.2.1.1) (C := RX4) (T := TX4) (N := 3) hx hb hts hinX4 hown hK hP 3 rfl rfl 0 (by decide) lk1 (fun _ h9 => h9) rfl dX5_underline_4 ?_
    refine lv_astore_n (lv' := [(3, .ref a0.2.2.1.2.1.1), (0, .ref a0.1), (1, .int p1), (2, .int p2)]) hx hb dX5_underline_7 rfl hl (by decide) rfl (fun ls hl => ?_)
    refine lv_aload_n hx hb dX5_underline_8 rfl (lv_at hl 0 rfl) ?_
    refine lv_iload_n hx hb dX5_underline_9 rfl (lv_at hl 2 rfl) ?_
    obtain ⟨r2, hr2, hf⟩ := ob_bind hf
    have hPc : va_P G.1 vwCl (ce_X1 G.2.1 a0.2.2.1.2.1 S0.2.1.1) H := hP.sub [4, 5, 6, 7, 8, 9] rfl
    have hDc : va_D A (ce_X1 G.2.1 a0.2.2.1.2.1 S0.2.1.1) := hD.sub [4, 5, 6, 7, 8, 9] (by decide) rfl
    have hFc := va_free (wc := ce_X1 G.2.1 a0.2.2.1.2.1 S0.2.1.1) hD hS hA [4, 5, 6, 7, 8, 9] rfl
    refine zc_ro (va_runVN (As := [.int p1]) (rest := []) ⟨hx, hb, hml, hown, hts⟩ (c_X1_knows l G a0.2.2.1.2.1 H.size S0.2.1.1 p1 _ hr2) (⟨va_cnB 1 hts gX5_underline_X1_knows_n66 rfl rfl rfl (hE.1 _ nw_36) lk2 (by decide +kernel) ⟨Nat.le_of_ble_eq_true rfl, Nat.le_of_ble_eq_true rfl⟩, lk3, lk4⟩) ⟨PcM.blind, va_recv hK hPc (ci := 1) (q0 := 0) rfl rfl, PcM.ok hPc hDc hK hE hS hFc⟩ rfl rfl hl.1 rfl (lv_room (Nat.le_of_ble_eq_true rfl)) dX5_underline_10 ⟨Nat.le_refl _, Nat.le_refl _⟩) hP hD hS hA [4, 5, 6, 7, 8, 9] rfl (fun H locs hP hS => ?_)
    refine lv_if_ne (tgt := 22) hx hb dX5_underline_13 (by decide) (fun c3 => ?_) (fun c3 => ?_)
    · replace hf := ob_neg c3 hf
      refine lv_iload_n hx hb dX5_underline_22 rfl (lv_at hl 3 rfl) ?_
      refine lv_if_lt (tgt := 31) hx hb dX5_underline_23 (by decide) (fun c4 => ?_) (fun c4 => ?_)
      · replace hf := ob_pos c4 hf
        exact blk31 _ hf _ _ hP hD hS _ (lv_sub hl [1] rfl)
      · replace hf := ob_neg c4 hf
        refine lv_iload_n hx hb dX5_underline_26 rfl (lv_at hl 3 rfl) ?_
        refine lv_iconst (v := 1) hx hb dX5_underline_27 (by decide) ?_
        refine lv_icmp_le (tgt := 38) hx hb dX5_underline_28 (by decide) (fun c5 => ?_) (fun c5 => ?_)
        · replace hf := ob_pos c5 hf
          refine lv_aload_n hx hb dX5_underline_38 rfl (lv_at hl 0 rfl) ?_
          refine va_getN (D := G.1) (ci := 1) (v := .int S0.2.1.1.2.2.2.2.2.2.2.1) (C := RX1) (T := TX1) (N := 9) hx hb hts hinX1 hown hK hP 4 rfl rfl 7 (by decide) lk5 (fun _ h9 => h9) rfl dX5_underline_39 ?_
          refine lv_iload_n hx hb dX5_underline_42 rfl (lv_at hl 2 rfl) ?_
          refine lv_ishr hx hb dX5_underline_43 ?_
          refine lv_iconst (v := 1) hx hb dX5_underline_44 (by decide) ?_
          refine lv_iand hx hb dX5_underline_45 ?_
          refine lv_istore (lv' := [(4, .int ((S0.2.1.1.2.2.2.2.2.2.2.1 >>> (p1 &&& 31)) &&& 1)), (3, .ref a0.2.2.1.2.1.1), (0, .ref a0.1), (1, .int p1), (2, .int p2)]) hx hb dX5_underline_46 hl (by decide) rfl (fun ls hl => ?_)
          refine lv_aload_n hx hb dX5_underline_48 rfl (lv_at hl 1 rfl) ?_
          refine lv_aload_n hx hb dX5_underline_49 rfl (lv_at hl 1 rfl) ?_
          refine va_getN (D := G.1) (ci := 1) (v := .int S0.2.1.1.2.2.2.2.2.2.2.1) (C := RX1) (T := TX1) (N := 9) hx hb hts hinX1 hown hK hP 4 rfl rfl 7 (by decide) lk5 (fun _ h9 => h9) rfl dX5_underline_50 ?_
          refine lv_iconst (v := 1) hx hb dX5_underline_53 (by decide) ?_
          refine lv_iload_n hx hb dX5_underline_54 rfl (lv_at hl 3 rfl) ?_
          refine lv_ishl hx hb dX5_underline_55 ?_
          refine lv_iconst (v := (-1)) hx hb dX5_underline_56 (by decide) ?_
          refine lv_ixor hx hb dX5_underline_57 ?_
          refine lv_iand hx hb dX5_underline_58 ?_
          refine lv_iload_n hx hb dX5_underline_59 rfl (lv_at hl 4 rfl) ?_
          refine lv_iload_n hx hb dX5_underline_60 rfl (lv_at hl 3 rfl) ?_
          refine lv_ishl hx hb dX5_underline_61 ?_
          refine lv_ior hx hb dX5_underline_62 ?_
          refine va_putN (D := G.1) (ci := 1) (v := .int ((S0.2.1.1.2.2.2.2.2.2.2.1 &&& ((1 <<< (p1 &&& 31)) ^^^ (-1))) ||| (p2 <<< (p1 &&& 31)))) (ty := .int) (C := RX1) (T := TX1) (N := 9) hx hb hts hinX1 tyX1 tyX1_ok nmX1 hown hK hP hD hS 4 rfl rfl 7 (by decide) lk5 (fun _ h9 => h9) rfl (by decide +kernel) rfl rfl (Nat.le_of_ble_eq_true rfl) dX5_underline_63 (fun H locs hP hD hS => ?_)
          have hP : va_P G.1 vwCl (ce_X5 G.2.1 a0 (S0.1, ((S0.2.1.1.1, S0.2.1.1.2.1, S0.2.1.1.2.2.1, S0.2.1.1.2.2.2.1, S0.2.1.1.2.2.2.2.1, S0.2.1.1.2.2.2.2.2.1, S0.2.1.1.2.2.2.2.2.2.1, (S0.2.1.1.2.2.2.2.2.2.2.1 &&& ((1 <<< (p1 &&& 31)) ^^^ (-1))) ||| (p2 <<< (p1 &&& 31)), S0.2.1.1.2.2.2.2.2.2.2.2), S0.2.1.2.1, S0.2.1.2.2), S0.2.2.1, S0.2.2.2.1, S0.2.2.2.2.1, S0.2.2.2.2.2.1, S0.2.2.2.2.2.2.1, S0.2.2.2.2.2.2.2.1, S0.2.2.2.2.2.2.2.2)) H := hP
          have hD : va_D A (ce_X5 G.2.1 a0 (S0.1, ((S0.2.1.1.1, S0.2.1.1.2.1, S0.2.1.1.2.2.1, S0.2.1.1.2.2.2.1, S0.2.1.1.2.2.2.2.1, S0.2.1.1.2.2.2.2.2.1, S0.2.1.1.2.2.2.2.2.2.1, (S0.2.1.1.2.2.2.2.2.2.2.1 &&& ((1 <<< (p1 &&& 31)) ^^^ (-1))) ||| (p2 <<< (p1 &&& 31)), S0.2.1.1.2.2.2.2.2.2.2.2), S0.2.1.2.1, S0.2.1.2.2), S0.2.2.1, S0.2.2.2.1, S0.2.2.2.2.1, S0.2.2.2.2.2.1, S0.2.2.2.2.2.2.1, S0.2.2.2.2.2.2.2.1, S0.2.2.2.2.2.2.2.2)) := hD
          refine lv_iload hx hb dX5_underline_66 (lv_at hl 0 rfl) ?_
          exact fin _ _ _ _ _ _ hf hP hD hS dX5_underline_68
        · replace hf := ob_neg c5 hf
          exact blk31 _ hf _ _ hP hD hS _ (lv_sub hl [1] rfl)
    · replace hf := ob_pos c3 hf
      refine lv_aload_n hx hb dX5_underline_16 rfl (lv_at hl 1 rfl) ?_
      refine lv_iconst (v := (-1)) hx hb dX5_underline_17 (by decide) ?_
      obtain ⟨r6, hr6, hf⟩ := ob_bind hf
      have hFc := va_free (wc := ce_X5 G.2.1 a0 S0) hD hS hA [0, 1, 2, 3, 4, 5, 6, 7, 8, 9, 10, 11, 12, 13, 14, 15, 16, 17, 18, 19, 20, 21, 22, 23, 24, 25, 26, 27, 28, 29, 30, 31, 32, 33, 34, 35, 36, 37, 38] rfl
      refine zc_wr (cf := (fun u => ce_X5 G.2.1 a0 u)) (ws' := ce_X5 G.2.1 a0 r6.2) (va_runV (As := [.int (-1)]) (rest := []) ⟨hx, hb, hml, hown, hts⟩ (c_X5_refuse l G a0 H.size S0 (-1) _ hr6) (cwV 1 hts gX5_underline_X5_refuse rfl rfl rfl (by decide +kernel) ⟨Nat.le_of_ble_eq_true rfl, Nat.le_of_ble_eq_true rfl⟩) ⟨PcM.blind, va_recv hK hP (ci := 5) (q0 := 0) rfl rfl, PcM.ok hP hD hK hE hS hFc⟩ rfl rfl hl.1 rfl (lv_room (Nat.le_of_ble_eq_true rfl)) dX5_underline_18 ⟨Nat.le_refl _, Nat.le_refl _⟩) hP hD hS hA [0, 1, 2, 3, 4, 5, 6, 7, 8, 9, 10, 11, 12, 13, 14, 15, 16, 17, 18, 19, 20, 21, 22, 23, 24, 25, 26, 27, 28, 29, 30, 31, 32, 33, 34, 35, 36, 37, 38] [] [0, 1, 2, 3, 4, 5, 6, 7, 8, 9, 10, 11, 12, 13, 14, 15, 16, 17, 18, 19, 20, 21, 22, 23, 24, 25, 26, 27, 28, 29, 30, 31, 32, 33, 34, 35, 36, 37, 38] rfl rfl (by decide) (by decide) (by decide) rfl (fun H locs hP hD hS => ?_)
      exact fin _ _ _ _ _ _ hf hP hD hS dX5_underline_21
  exact go _ _ hP hD hS _ hl
abbrev rm_X5_fresh : Room := { frames := 7, cells := 0, slots := 0, locals := 163 }
set_option maxHeartbeats 4000000 in
set_option maxRecDepth 100000 in
theorem c_X5_fresh (l : Launch) (G : zG) (a0 : AT_X5) (sz : Nat) (S0 : ST_X5) (p1 : Int32) (p2 : Int32) (out : Int32 × ST_X5) (hf : f_X5_fresh S0 p1 p2 = some out) : Met l yX5_fresh wsX5_fresh rm_X5_fresh (PcM G (ce_X5 G.2.1 a0 S0) [.ref a0.1, .int p1, .int p2] sz) (QWr G (fun u => ce_X5 G.2.1 a0 u) out (va_A (ce_X5 G.2.1 a0 S0) sz)) 0 0 (va_A (ce_X5 G.2.1 a0 S0) sz) := by
  rw [f_X5_fresh] at hf
  refine Met.ofW (cc := cX5_fresh) (maxL := 3) (ret := (some .int)) (by decide) rfl ?_
  intro p e s m args below meth c s₁ B hml hv
  obtain ⟨hargs, hsz, hP, hK, hD0, hE⟩ := hv
  have hx := B.exec
  have hb := B.bytes
  have hr := B.returns
  have hts := atoms_spec (ws := wsX5_fresh) B.pre
  have hown : s.vm.findClass RX5 = some m.cls := findClass_of_methodNamed B.named
  have hlocks := B.notSynchronized
  subst hsz
  have hD := hD0.self (sz := s.heap.size)
  generalize hAe : va_A (ce_X5 G.2.1 a0 S0) s.heap.size = A at hD hE ⊢
  have hA : ∀ q : Nat, s.heap.size ≤ q → A q := fun q h => by rw [← hAe]; exact Or.inr h
  have hS : va_S A s.heap s.heap [] := va_S.rf
  have hl := lv_entry ([.ref a0.1, .int p1, .int p2]) (n := 3) (Nat.le_of_ble_eq_true rfl)
  have hent : entryFrame m args 3 = F0 m 0 ((lg_sl ([.ref a0.1, .int p1, .int p2]) ++ List.replicate (3 - (lg_sl ([.ref a0.1, .int p1, .int p2])).length) Slot.unset).toArray) [] := by rw [hargs, lg_entry_eq]
  rw [hent]
  clear hent
  generalize (lg_sl ([.ref a0.1, .int p1, .int p2]) ++ List.replicate (3 - (lg_sl ([.ref a0.1, .int p1, .int p2])).length) Slot.unset).toArray = ls at hl ⊢
  have hl : lv_has ls 3 [(0, .ref a0.1), (1, .int p1), (2, .int p2)] := hl
  have lk0 := hts (Cond.fieldLink RX5 19 "EnginesOnList" "now" "LEnginesOnList$World;") (List.mem_of_getElem? (i := 1) rfl)
  have lk1 := hts (Cond.initialized RX4) (List.mem_of_getElem? (i := 12) rfl)
  have lk2 := hts (Cond.instanceMethod yX4_freshWorth) (List.mem_of_getElem? (i := 11) rfl)
  have lk3 := hts (Cond.selects RX4 yX4_freshWorth yX4_freshWorth) (List.mem_of_getElem? (i := 13) rfl)
  have hinX5 : ∀ w ∈ wsX50, w ∈ wsX5_fresh := by decide +kernel
  have fin : ∀ (pc : Nat) (v : Int32) (u : ST_X5) (H : Heap) (locs : List Loc) (ls : Array Slot), some (v, u) = some out → va_P G.1 vwCl (ce_X5 G.2.1 a0 u) H → va_D A (ce_X5 G.2.1 a0 u) → va_S A s.heap H locs → decode cX5_fresh pc = .ok (.ireturn, 1) → W p l e (headSpec wsX5_fresh rm_X5_fresh).room s m args below meth c H locs 0 0 (MQ below (QWr G (fun u => ce_X5 G.2.1 a0 u) out A) args s 0 0 A) (F0 m pc ls [.int v]) := fun pc v u H locs ls ho hP hD hS hd => W.iret (v := v) hx hb hr (fun t ht hW => ⟨⟨v, u, rfl, ob_pair ho, by first | (rw [ht]; exact hP) | (dsimp only; rw [ht]; exact hP), hD⟩, hS.F ht⟩) hS.2.2 hd
  generalize MQ below (QWr G (fun u => ce_X5 G.2.1 a0 u) out A) args s 0 0 A = Q at fin ⊢
  have go : ∀ (H : Heap) (locs : List Loc), va_P G.1 vwCl (ce_X5 G.2.1 a0 S0) H → va_D A (ce_X5 G.2.1 a0 S0) → va_S A s.heap H locs → ∀ (ls : Array Slot), lv_has ls 3 [(0, .ref a0.1), (1, .int p1), (2, .int p2)] → W p l e (headSpec wsX5_fresh rm_X5_fresh).room s m args below meth c H locs 0 0 Q (F0 m 0 ls []) := by
    intro H locs hP hD hS ls hl
    refine lv_iload_n hx hb dX5_fresh_0 rfl (lv_at hl 1 rfl) ?_
    obtain ⟨r1, hr1, hf⟩ := ob_bind hf
    have hPc : va_P G.1 vwCl (([] : va_W)) H := hP.sub [] rfl
    have hDc : va_D A (([] : va_W)) := hD.sub [] (by decide) rfl
    have hFc := va_free (wc := ([] : va_W)) hD hS hA [] rfl
    refine zc_ro (va_runS (As := [.int p1]) (rest := []) ⟨hx, hb, hml, hown, hts⟩ (c_X5_isPlace l G H.size p1 _ hr1) (va_cwS 1 hts gX5_fresh_X5_isPlace rfl rfl rfl (by decide +kernel) ⟨Nat.le_of_ble_eq_true rfl, Nat.le_of_ble_eq_true rfl⟩) ⟨PcM.blind, PcM.ok hPc hDc hK hE hS hFc⟩ rfl rfl hl.1 rfl (lv_room (Nat.le_of_ble_eq_true rfl)) dX5_fresh_1 ⟨Nat.le_refl _, Nat.le_refl _⟩) hP hD hS hA [] rfl (fun H locs hP hS => ?_)
    refine lv_if_ne (tgt := 13) hx hb dX5_fresh_4 (by decide) (fun c2 => ?_) (fun c2 => ?_)
    · replace hf := ob_neg c2 hf
      refine lv_iload_n hx hb dX5_fresh_13 rfl (lv_at hl 2 rfl) ?_
      refine lv_iconst (v := 1) hx hb dX5_fresh_14 (by decide) ?_
      refine lv_icmp_ge (tgt := 25) hx hb dX5_fresh_15 (by decide) (fun c3 => ?_) (fun c3 => ?_)
      · replace hf := ob_pos c3 hf
        refine lv_iload_n hx hb dX5_fresh_25 rfl (lv_at hl 2 rfl) ?_
        refine lv_bipush (v := 14) hx hb dX5_fresh_26 (by decide) ?_
        refine lv_icmp_le (tgt := 38) hx hb dX5_fresh_28 (by decide) (fun c4 => ?_) (fun c4 => ?_)
        · replace hf := ob_pos c4 hf
          refine lv_aload_n hx hb dX5_fresh_38 rfl (lv_at hl 0 rfl) ?_
          refine va_get (D := G.1) (ci := 5) (v := .ref a0.2.2.1.1) (C := RX5) (T := TX5) (N := 9) hx hb hts hinX5 hown hK hP 0 rfl rfl 1 (by decide) lk0 (fun _ h9 => h9) rfl dX5_fresh_39 ?_
          refine lv_iload_n hx hb dX5_fresh_42 rfl (lv_at hl 1 rfl) ?_
          refine lv_iload_n hx hb dX5_fresh_43 rfl (lv_at hl 2 rfl) ?_
          obtain ⟨r5, hr5, hf⟩ := ob_bind hf
          have hPc : va_P G.1 vwCl (ce_X4 G.2.1 a0.2.2.1 S0.2.1) H := hP.sub [3, 4, 5, 6, 7, 8, 9, 10, 11, 12, 13, 14] rfl
          have hDc : va_D A (ce_X4 G.2.1 a0.2.2.1 S0.2.1) := hD.sub [3, 4, 5, 6, 7, 8, 9, 10, 11, 12, 13, 14] (by decide) rfl
          have hFc := va_free (wc := ce_X4 G.2.1 a0.2.2.1 S0.2.1) hD hS hA [3, 4, 5, 6, 7, 8, 9, 10, 11, 12, 13, 14] rfl
          refine zc_ro (va_runVN (As := [.int p1, .int p2]) (rest := []) ⟨hx, hb, hml, hown, hts⟩ (c_X4_freshWorth l G a0.2.2.1 H.size S0.2.1 p1 p2 _ hr5) (⟨va_cnB 2 hts gX5_fresh_X4_freshWorth_n113 rfl rfl rfl (hE.1 _ nw_44) lk1 (by decide +kernel) ⟨Nat.le_of_ble_eq_true rfl, Nat.le_of_ble_eq_true rfl⟩, lk2, lk3⟩) ⟨PcM.blind, va_recv hK hPc (ci := 4) (q0 := 0) rfl rfl, PcM.ok hPc hDc hK hE hS hFc⟩ rfl rfl hl.1 rfl (lv_room (Nat.le_of_ble_eq_true rfl)) dX5_fresh_44 ⟨Nat.le_refl _, Nat.le_refl _⟩) hP hD hS hA [3, 4, 5, 6, 7, 8, 9, 10, 11, 12, 13, 14] rfl (fun H locs hP hS => ?_)
          exact fin _ _ _ _ _ _ hf hP hD hS dX5_fresh_47
        · replace hf := ob_neg c4 hf
          refine lv_aload_n hx hb dX5_fresh_31 rfl (lv_at hl 0 rfl) ?_
          refine lv_bipush (v := (-6)) hx hb dX5_fresh_32 (by decide) ?_
          obtain ⟨r6, hr6, hf⟩ := ob_bind hf
          have hFc := va_free (wc := ce_X5 G.2.1 a0 S0) hD hS hA [0, 1, 2, 3, 4, 5, 6, 7, 8, 9, 10, 11, 12, 13, 14, 15, 16, 17, 18, 19, 20, 21, 22, 23, 24, 25, 26, 27, 28, 29, 30, 31, 32, 33, 34, 35, 36, 37, 38] rfl
          refine zc_wr (cf := (fun u => ce_X5 G.2.1 a0 u)) (ws' := ce_X5 G.2.1 a0 r6.2) (va_runV (As := [.int (-6)]) (rest := []) ⟨hx, hb, hml, hown, hts⟩ (c_X5_refuse l G a0 H.size S0 (-6) _ hr6) (cwV 1 hts gX5_fresh_X5_refuse rfl rfl rfl (by decide +kernel) ⟨Nat.le_of_ble_eq_true rfl, Nat.le_of_ble_eq_true rfl⟩) ⟨PcM.blind, va_recv hK hP (ci := 5) (q0 := 0) rfl rfl, PcM.ok hP hD hK hE hS hFc⟩ rfl rfl hl.1 rfl (lv_room (Nat.le_of_ble_eq_true rfl)) dX5_fresh_34 ⟨Nat.le_refl _, Nat.le_refl _⟩) hP hD hS hA [0, 1, 2, 3, 4, 5, 6, 7, 8, 9, 10, 11, 12, 13, 14, 15, 16, 17, 18, 19, 20, 21, 22, 23, 24, 25, 26, 27, 28, 29, 30, 31, 32, 33, 34, 35, 36, 37, 38] [] [0, 1, 2, 3, 4, 5, 6, 7, 8, 9, 10, 11, 12, 13, 14, 15, 16, 17, 18, 19, 20, 21, 22, 23, 24, 25, 26, 27, 28, 29, 30, 31, 32, 33, 34, 35, 36, 37, 38] rfl rfl (by decide) (by decide) (by decide) rfl (fun H locs hP hD hS => ?_)
          exact fin _ _ _ _ _ _ hf hP hD hS dX5_fresh_37
      · replace hf := ob_neg c3 hf
        refine lv_aload_n hx hb dX5_fresh_18 rfl (lv_at hl 0 rfl) ?_
        refine lv_bipush (v := (-4)) hx hb dX5_fresh_19 (by decide) ?_
        obtain ⟨r7, hr7, hf⟩ := ob_bind hf
        have hFc := va_free (wc := ce_X5 G.2.1 a0 S0) hD hS hA [0, 1, 2, 3, 4, 5, 6, 7, 8, 9, 10, 11, 12, 13, 14, 15, 16, 17, 18, 19, 20, 21, 22, 23, 24, 25, 26, 27, 28, 29, 30, 31, 32, 33, 34, 35, 36, 37, 38] rfl
        refine zc_wr (cf := (fun u => ce_X5 G.2.1 a0 u)) (ws' := ce_X5 G.2.1 a0 r7.2) (va_runV (As := [.int (-4)]) (rest := []) ⟨hx, hb, hml, hown, hts⟩ (c_X5_refuse l G a0 H.size S0 (-4) _ hr7) (cwV 1 hts gX5_fresh_X5_refuse rfl rfl rfl (by decide +kernel) ⟨Nat.le_of_ble_eq_true rfl, Nat.le_of_ble_eq_true rfl⟩) ⟨PcM.blind, va_recv hK hP (ci := 5) (q0 := 0) rfl rfl, PcM.ok hP hD hK hE hS hFc⟩ rfl rfl hl.1 rfl (lv_room (Nat.le_of_ble_eq_true rfl)) dX5_fresh_21 ⟨Nat.le_refl _, Nat.le_refl _⟩) hP hD hS hA [0, 1, 2, 3, 4, 5, 6, 7, 8, 9, 10, 11, 12, 13, 14, 15, 16, 17, 18, 19, 20, 21, 22, 23, 24, 25, 26, 27, 28, 29, 30, 31, 32, 33, 34, 35, 36, 37, 38] [] [0, 1, 2, 3, 4, 5, 6, 7, 8, 9, 10, 11, 12, 13, 14, 15, 16, 17, 18, 19, 20, 21, 22, 23, 24, 25, 26, 27, 28, 29, 30, 31, 32, 33, 34, 35, 36, 37, 38] rfl rfl (by decide) (by decide) (by decide) rfl (fun H locs hP hD hS => ?_)
        exact fin _ _ _ _ _ _ hf hP hD hS dX5_fresh_24
    · replace hf := ob_pos c2 hf
      refine lv_aload_n hx hb dX5_fresh_7 rfl (lv_at hl 0 rfl) ?_
      refine lv_iconst (v := (-1)) hx hb dX5_fresh_8 (by decide) ?_
      obtain ⟨r8, hr8, hf⟩ := ob_bind hf
      have hFc := va_free (wc := ce_X5 G.2.1 a0 S0) hD hS hA [0, 1, 2, 3, 4, 5, 6, 7, 8, 9, 10, 11, 12, 13, 14, 15, 16, 17, 18, 19, 20, 21, 22, 23, 24, 25, 26, 27, 28, 29, 30, 31, 32, 33, 34, 35, 36, 37, 38] rfl
      refine zc_wr (cf := (fun u => ce_X5 G.2.1 a0 u)) (ws' := ce_X5 G.2.1 a0 r8.2) (va_runV (As := [.int (-1)]) (rest := []) ⟨hx, hb, hml, hown, hts⟩ (c_X5_refuse l G a0 H.size S0 (-1) _ hr8) (cwV 1 hts gX5_fresh_X5_refuse rfl rfl rfl (by decide +kernel) ⟨Nat.le_of_ble_eq_true rfl, Nat.le_of_ble_eq_true rfl⟩) ⟨PcM.blind, va_recv hK hP (ci := 5) (q0 := 0) rfl rfl, PcM.ok hP hD hK hE hS hFc⟩ rfl rfl hl.1 rfl (lv_room (Nat.le_of_ble_eq_true rfl)) dX5_fresh_9 ⟨Nat.le_refl _, Nat.le_refl _⟩) hP hD hS hA [0, 1, 2, 3, 4, 5, 6, 7, 8, 9, 10, 11, 12, 13, 14, 15, 16, 17, 18, 19, 20, 21, 22, 23, 24, 25, 26, 27, 28, 29, 30, 31, 32, 33, 34, 35, 36, 37, 38] [] [0, 1, 2, 3, 4, 5, 6, 7, 8, 9, 10, 11, 12, 13, 14, 15, 16, 17, 18, 19, 20, 21, 22, 23, 24, 25, 26, 27, 28, 29, 30, 31, 32, 33, 34, 35, 36, 37, 38] rfl rfl (by decide) (by decide) (by decide) rfl (fun H locs hP hD hS => ?_)
      exact fin _ _ _ _ _ _ hf hP hD hS dX5_fresh_12
  exact go _ _ hP hD hS _ hl
abbrev rm_X5_where : Room := { frames := 7, cells := 0, slots := 0, locals := 163 }
set_option maxHeartbeats 4000000 in
set_option maxRecDepth 100000 in
theorem c_X5_where (l : Launch) (G : zG) (a0 : AT_X5) (sz : Nat) (S0 : ST_X5) (p1 : Int32) (out : Int32 × ST_X5) (hf : f_X5_where S0 p1 = some out) : Met l yX5_where wsX5_where rm_X5_where (PcM G (ce_X5 G.2.1 a0 S0) [.ref a0.1, .int p1] sz) (QWr G (fun u => ce_X5 G.2.1 a0 u) out (va_A (ce_X5 G.2.1 a0 S0) sz)) 0 0 (va_A (ce_X5 G.2.1 a0 S0) sz) := by
  rw [f_X5_where] at hf
  refine Met.ofW (cc := cX5_where) (maxL := 6) (ret := (some .int)) (by decide) rfl ?_
  intro p e s m args below meth c s₁ B hml hv
  obtain ⟨hargs, hsz, hP, hK, hD0, hE⟩ := hv
  have hx := B.exec
  have hb := B.bytes
  have hr := B.returns
  have hts := atoms_spec (ws := wsX5_where) B.pre
  have hown : s.vm.findClass RX5 = some m.cls := findClass_of_methodNamed B.named
  have hlocks := B.notSynchronized
  subst hsz
  have hD := hD0.self (sz := s.heap.size)
  generalize hAe : va_A (ce_X5 G.2.1 a0 S0) s.heap.size = A at hD hE ⊢
  have hA : ∀ q : Nat, s.heap.size ≤ q → A q := fun q h => by rw [← hAe]; exact Or.inr h
  have hS : va_S A s.heap s.heap [] := va_S.rf
  have hl := lv_entry ([.ref a0.1, .int p1]) (n := 6) (Nat.le_of_ble_eq_true rfl)
  have hent : entryFrame m args 6 = F0 m 0 ((lg_sl ([.ref a0.1, .int p1]) ++ List.replicate (6 - (lg_sl ([.ref a0.1, .int p1])).length) Slot.unset).toArray) [] := by rw [hargs, lg_entry_eq]
  rw [hent]
  clear hent
  generalize (lg_sl ([.ref a0.1, .int p1]) ++ List.replicate (6 - (lg_sl ([.ref a0.1, .int p1])).length) Slot.unset).toArray = ls at hl ⊢
  have hl : lv_has ls 6 [(0, .ref a0.1), (1, .int p1)] := hl
  have lk0 := hts (Cond.fieldLink RX5 19 "EnginesOnList" "now" "LEnginesOnList$World;") (List.mem_of_getElem? (i := 1) rfl)
  have lk1 := hts (Cond.initialized RX4) (List.mem_of_getElem? (i := 9) rfl)
  have lk2 := hts (Cond.instanceMethod yX4_freshWorth) (List.mem_of_getElem? (i := 8) rfl)
  have lk3 := hts (Cond.selects RX4 yX4_freshWorth yX4_freshWorth) (List.mem_of_getElem? (i := 10) rfl)
  have hinX5 : ∀ w ∈ wsX50, w ∈ wsX5_where := by decide +kernel
  have fin : ∀ (pc : Nat) (v : Int32) (u : ST_X5) (H : Heap) (locs : List Loc) (ls : Array Slot), some (v, u) = some out → va_P G.1 vwCl (ce_X5 G.2.1 a0 u) H → va_D A (ce_X5 G.2.1 a0 u) → va_S A s.heap H locs → decode cX5_where pc = .ok (.ireturn, 1) → W p l e (headSpec wsX5_where rm_X5_where).room s m args below meth c H locs 0 0 (MQ below (QWr G (fun u => ce_X5 G.2.1 a0 u) out A) args s 0 0 A) (F0 m pc ls [.int v]) := fun pc v u H locs ls ho hP hD hS hd => W.iret (v := v) hx hb hr (fun t ht hW => ⟨⟨v, u, rfl, ob_pair ho, by first | (rw [ht]; exact hP) | (dsimp only; rw [ht]; exact hP), hD⟩, hS.F ht⟩) hS.2.2 hd
  generalize MQ below (QWr G (fun u => ce_X5 G.2.1 a0 u) out A) args s 0 0 A = Q at fin ⊢
  have blk32 : ∀ (fu32 : Nat), ∀ (S0 : ST_X5) (v1 : Int32) (v2 : Int32) (v3 : Int32) (v4 : Int32), f_X5_where_b32 fu32 S0 v1 v2 v3 v4 = some out → ∀ (H : Heap) (locs : List Loc), va_P G.1 vwCl (ce_X5 G.2.1 a0 S0) H → va_D A (ce_X5 G.2.1 a0 S0) → va_S A s.heap H locs → ∀ (ls : Array Slot), lv_has ls 6 [(0, .ref a0.1), (1, .int v1), (2, .int v2), (3, .int v3), (4, .int v4)] → W p l e (headSpec wsX5_where rm_X5_where).room s m args below meth c H locs 0 0 Q (F0 m 32 ls []) := by
    intro fu32
    induction fu32 with
    | zero => intro S0 v1 v2 v3 v4 hf; exact ob_none hf
    | succ fu32 ih32 =>
      intro S0 v1 v2 v3 v4 hf H locs hP hD hS ls hl
      rw [f_X5_where_b32] at hf
      have blk62 : ∀ (S0 : ST_X5) (v1 : Int32) (v2 : Int32) (v3 : Int32) (v4 : Int32), f_X5_where_b62 (f_X5_where_b32 fu32) S0 v1 v2 v3 v4 = some out → ∀ (H : Heap) (locs : List Loc), va_P G.1 vwCl (ce_X5 G.2.1 a0 S0) H → va_D A (ce_X5 G.2.1 a0 S0) → va_S A s.heap H locs → ∀ (ls : Array Slot), lv_has ls 6 [(0, .ref a0.1), (1, .int v1), (2, .int v2), (3, .int v3), (4, .int v4)] → W p l e (headSpec wsX5_where rm_X5_where).room s m args below meth c H locs 0 0 Q (F0 m 62 ls []) := by
        intro S0 v1 v2 v3 v4 hf H locs hP hD hS ls hl
        rw [f_X5_where_b62] at hf
        refine lv_iinc (v := v4 + 1) (lv' := [(4, .int (v4 + 1)), (0, .ref a0.1), (1, .int v1), (2, .int v2), (3, .int v3)]) hx hb dX5_where_62 hl (k := 4) rfl rfl (by decide) rfl (fun ls hl => ?_)
        refine lv_goto (tgt := 32) hx hb dX5_where_65 (by decide) ?_
        exact ih32 _ _ _ _ _ hf _ _ hP hD hS _ (lv_sub hl [1, 2, 3, 4, 0] rfl)
      refine lv_iload hx hb dX5_where_32 (lv_at hl 4 rfl) ?_
      refine lv_iconst (v := 5) hx hb dX5_where_34 (by decide) ?_
      refine lv_icmp_ge (tgt := 68) hx hb dX5_where_35 (by decide) (fun c1 => ?_) (fun c1 => ?_)
      · replace hf := ob_pos c1 hf
        refine lv_iload_n hx hb dX5_where_68 rfl (lv_at hl 2 rfl) ?_
        exact fin _ _ _ _ _ _ hf hP hD hS dX5_where_69
      · replace hf := ob_neg c1 hf
        refine lv_aload_n hx hb dX5_where_38 rfl (lv_at hl 0 rfl) ?_
        refine va_get (D := G.1) (ci := 5) (v := .ref a0.2.2.1.1) (C := RX5) (T := TX5) (N := 9) hx hb hts hinX5 hown hK hP 0 rfl rfl 1 (by decide) lk0 (fun _ h9 => h9) rfl dX5_where_39 ?_
        refine lv_iload hx hb dX5_where_42 (lv_at hl 4 rfl) ?_
        refine lv_iload_n hx hb dX5_where_44 rfl (lv_at hl 1 rfl) ?_
        obtain ⟨r2, hr2, hf⟩ := ob_bind hf
        have hPc : va_P G.1 vwCl (ce_X4 G.2.1 a0.2.2.1 S0.2.1) H := hP.sub [3, 4, 5, 6, 7, 8, 9, 10, 11, 12, 13, 14] rfl
        have hDc : va_D A (ce_X4 G.2.1 a0.2.2.1 S0.2.1) := hD.sub [3, 4, 5, 6, 7, 8, 9, 10, 11, 12, 13, 14] (by decide) rfl
        have hFc := va_free (wc := ce_X4 G.2.1 a0.2.2.1 S0.2.1) hD hS hA [3, 4, 5, 6, 7, 8, 9, 10, 11, 12, 13, 14] rfl
        refine zc_ro (va_runVN (As := [.int v4, .int v1]) (rest := []) ⟨hx, hb, hml, hown, hts⟩ (c_X4_freshWorth l G a0.2.2.1 H.size S0.2.1 v4 v1 _ hr2) (⟨va_cnB 2 hts gX5_where_X4_freshWorth_n113 rfl rfl rfl (hE.1 _ nw_44) lk1 (by decide +kernel) ⟨Nat.le_of_ble_eq_true rfl, Nat.le_of_ble_eq_true rfl⟩, lk2, lk3⟩) ⟨PcM.blind, va_recv hK hPc (ci := 4) (q0 := 0) rfl rfl, PcM.ok hPc hDc hK hE hS hFc⟩ rfl rfl hl.1 rfl (lv_room (Nat.le_of_ble_eq_true rfl)) dX5_where_45 ⟨Nat.le_refl _, Nat.le_refl _⟩) hP hD hS hA [3, 4, 5, 6, 7, 8, 9, 10, 11, 12, 13, 14] rfl (fun H locs hP hS => ?_)
        refine lv_istore (lv' := [(5, .int r2), (0, .ref a0.1), (1, .int v1), (2, .int v2), (3, .int v3), (4, .int v4)]) hx hb dX5_where_48 hl (by decide) rfl (fun ls hl => ?_)
        refine lv_iload hx hb dX5_where_50 (lv_at hl 0 rfl) ?_
        refine lv_iload_n hx hb dX5_where_52 rfl (lv_at hl 4 rfl) ?_
        refine lv_icmp_le (tgt := 62) hx hb dX5_where_53 (by decide) (fun c3 => ?_) (fun c3 => ?_)
        · replace hf := ob_pos c3 hf
          exact blk62 _ _ _ _ _ hf _ _ hP hD hS _ (lv_sub hl [1, 2, 3, 4, 5] rfl)
        · replace hf := ob_neg c3 hf
          refine lv_iload hx hb dX5_where_56 (lv_at hl 0 rfl) ?_
          refine lv_istore_n (lv' := [(3, .int r2), (5, .int r2), (0, .ref a0.1), (1, .int v1), (2, .int v2), (4, .int v4)]) hx hb dX5_where_58 rfl hl (by decide) rfl (fun ls hl => ?_)
          refine lv_iload hx hb dX5_where_59 (lv_at hl 5 rfl) ?_
          refine lv_istore_n (lv' := [(2, .int v4), (3, .int r2), (5, .int r2), (0, .ref a0.1), (1, .int v1), (4, .int v4)]) hx hb dX5_where_61 rfl hl (by decide) rfl (fun ls hl => ?_)
          exact blk62 _ _ _ _ _ hf _ _ hP hD hS _ (lv_sub hl [3, 4, 0, 1, 5] rfl)
  have go : ∀ (H : Heap) (locs : List Loc), va_P G.1 vwCl (ce_X5 G.2.1 a0 S0) H → va_D A (ce_X5 G.2.1 a0 S0) → va_S A s.heap H locs → ∀ (ls : Array Slot), lv_has ls 6 [(0, .ref a0.1), (1, .int p1)] → W p l e (headSpec wsX5_where rm_X5_where).room s m args below meth c H locs 0 0 Q (F0 m 0 ls []) := by
    intro H locs hP hD hS ls hl
    refine lv_iload_n hx hb dX5_where_0 rfl (lv_at hl 1 rfl) ?_
    refine lv_iconst (v := 1) hx hb dX5_where_1 (by decide) ?_
    refine lv_icmp_ge (tgt := 12) hx hb dX5_where_2 (by decide) (fun c4 => ?_) (fun c4 => ?_)
    · replace hf := ob_pos c4 hf
      refine lv_iload_n hx hb dX5_where_12 rfl (lv_at hl 1 rfl) ?_
      refine lv_bipush (v := 14) hx hb dX5_where_13 (by decide) ?_
      refine lv_icmp_le (tgt := 25) hx hb dX5_where_15 (by decide) (fun c5 => ?_) (fun c5 => ?_)
      · replace hf := ob_pos c5 hf
        refine lv_iconst (v := 0) hx hb dX5_where_25 (by decide) ?_
        refine lv_istore_n (lv' := [(2, .int 0), (0, .ref a0.1), (1, .int p1)]) hx hb dX5_where_26 rfl hl (by decide) rfl (fun ls hl => ?_)
        refine lv_iconst (v := (-1)) hx hb dX5_where_27 (by decide) ?_
        refine lv_istore_n (lv' := [(3, .int (-1)), (2, .int 0), (0, .ref a0.1), (1, .int p1)]) hx hb dX5_where_28 rfl hl (by decide) rfl (fun ls hl => ?_)
        refine lv_iconst (v := 0) hx hb dX5_where_29 (by decide) ?_
        refine lv_istore (lv' := [(4, .int 0), (3, .int (-1)), (2, .int 0), (0, .ref a0.1), (1, .int p1)]) hx hb dX5_where_30 hl (by decide) rfl (fun ls hl => ?_)
        exact blk32 4096 _ _ _ _ _ hf _ _ hP hD hS _ (lv_sub hl [3, 4, 2, 1, 0] rfl)
      · replace hf := ob_neg c5 hf
        refine lv_aload_n hx hb dX5_where_18 rfl (lv_at hl 0 rfl) ?_
        refine lv_bipush (v := (-6)) hx hb dX5_where_19 (by decide) ?_
        obtain ⟨r6, hr6, hf⟩ := ob_bind hf
        have hFc := va_free (wc := ce_X5 G.2.1 a0 S0) hD hS hA [0, 1, 2, 3, 4, 5, 6, 7, 8, 9, 10, 11, 12, 13, 14, 15, 16, 17, 18, 19, 20, 21, 22, 23, 24, 25, 26, 27, 28, 29, 30, 31, 32, 33, 34, 35, 36, 37, 38] rfl
        refine zc_wr (cf := (fun u => ce_X5 G.2.1 a0 u)) (ws' := ce_X5 G.2.1 a0 r6.2) (va_runV (As := [.int (-6)]) (rest := []) ⟨hx, hb, hml, hown, hts⟩ (c_X5_refuse l G a0 H.size S0 (-6) _ hr6) (cwV 1 hts gX5_where_X5_refuse rfl rfl rfl (by decide +kernel) ⟨Nat.le_of_ble_eq_true rfl, Nat.le_of_ble_eq_true rfl⟩) ⟨PcM.blind, va_recv hK hP (ci := 5) (q0 := 0) rfl rfl, PcM.ok hP hD hK hE hS hFc⟩ rfl rfl hl.1 rfl (lv_room (Nat.le_of_ble_eq_true rfl)) dX5_where_21 ⟨Nat.le_refl _, Nat.le_refl _⟩) hP hD hS hA [0, 1, 2, 3, 4, 5, 6, 7, 8, 9, 10, 11, 12, 13, 14, 15, 16, 17, 18, 19, 20, 21, 22, 23, 24, 25, 26, 27, 28, 29, 30, 31, 32, 33, 34, 35, 36, 37, 38] [] [0, 1, 2, 3, 4, 5, 6, 7, 8, 9, 10, 11, 12, 13, 14, 15, 16, 17, 18, 19, 20, 21, 22, 23, 24, 25, 26, 27, 28, 29, 30, 31, 32, 33, 34, 35, 36, 37, 38] rfl rfl (by decide) (by decide) (by decide) rfl (fun H locs hP hD hS => ?_)
        exact fin _ _ _ _ _ _ hf hP hD hS dX5_where_24
    · replace hf := ob_neg c4 hf
      refine lv_aload_n hx hb dX5_where_5 rfl (lv_at hl 0 rfl) ?_
      refine lv_bipush (v := (-4)) hx hb dX5_where_6 (by decide) ?_
      obtain ⟨r7, hr7, hf⟩ := ob_bind hf
      have hFc := va_free (wc := ce_X5 G.2.1 a0 S0) hD hS hA [0, 1, 2, 3, 4, 5, 6, 7, 8, 9, 10, 11, 12, 13, 14, 15, 16, 17, 18, 19, 20, 21, 22, 23, 24, 25, 26, 27, 28, 29, 30, 31, 32, 33, 34, 35, 36, 37, 38] rfl
      refine zc_wr (cf := (fun u => ce_X5 G.2.1 a0 u)) (ws' := ce_X5 G.2.1 a0 r7.2) (va_runV (As := [.int (-4)]) (rest := []) ⟨hx, hb, hml, hown, hts⟩ (c_X5_refuse l G a0 H.size S0 (-4) _ hr7) (cwV 1 hts gX5_where_X5_refuse rfl rfl rfl (by decide +kernel) ⟨Nat.le_of_ble_eq_true rfl, Nat.le_of_ble_eq_true rfl⟩) ⟨PcM.blind, va_recv hK hP (ci := 5) (q0 := 0) rfl rfl, PcM.ok hP hD hK hE hS hFc⟩ rfl rfl hl.1 rfl (lv_room (Nat.le_of_ble_eq_true rfl)) dX5_where_8 ⟨Nat.le_refl _, Nat.le_refl _⟩) hP hD hS hA [0, 1, 2, 3, 4, 5, 6, 7, 8, 9, 10, 11, 12, 13, 14, 15, 16, 17, 18, 19, 20, 21, 22, 23, 24, 25, 26, 27, 28, 29, 30, 31, 32, 33, 34, 35, 36, 37, 38] [] [0, 1, 2, 3, 4, 5, 6, 7, 8, 9, 10, 11, 12, 13, 14, 15, 16, 17, 18, 19, 20, 21, 22, 23, 24, 25, 26, 27, 28, 29, 30, 31, 32, 33, 34, 35, 36, 37, 38] rfl rfl (by decide) (by decide) (by decide) rfl (fun H locs hP hD hS => ?_)
      exact fin _ _ _ _ _ _ hf hP hD hS dX5_where_11
  exact go _ _ hP hD hS _ hl
abbrev rm_X5_plan : Room := { frames := 20, cells := 0, slots := 0, locals := 772 }
set_option maxHeartbeats 4000000 in
set_option maxRecDepth 100000 in
theorem c_X5_plan (l : Launch) (G : zG) (a0 : AT_X5) (sz : Nat) (S0 : ST_X5) (p1 : Int32) (p2 : Int32) (p3 : Int32) (out : Int32 × ST_X5) (hf : f_X5_plan S0 p1 p2 p3 = some out) : Met l yX5_plan wsX5_plan rm_X5_plan (PcM G (ce_X5 G.2.1 a0 S0) [.ref a0.1, .int p1, .int p2, .int p3] sz) (QWr G (fun u => ce_X5 G.2.1 a0 u) out (va_A (ce_X5 G.2.1 a0 S0) sz)) 0 0 (va_A (ce_X5 G.2.1 a0 S0) sz) := by
  rw [f_X5_plan] at hf
  refine Met.ofW (cc := cX5_plan) (maxL := 4) (ret := (some .int)) (by decide) rfl ?_
  intro p e s m args below meth c s₁ B hml hv
  obtain ⟨hargs, hsz, hP, hK, hD0, hE⟩ := hv
  have hx := B.exec
  have hb := B.bytes
  have hr := B.returns
  have hts := atoms_spec (ws := wsX5_plan) B.pre
  have hown : s.vm.findClass RX5 = some m.cls := findClass_of_methodNamed B.named
  have hlocks := B.notSynchronized
  subst hsz
  have hD := hD0.self (sz := s.heap.size)
  generalize hAe : va_A (ce_X5 G.2.1 a0 S0) s.heap.size = A at hD hE ⊢
  have hA : ∀ q : Nat, s.heap.size ≤ q → A q := fun q h => by rw [← hAe]; exact Or.inr h
  have hS : va_S A s.heap s.heap [] := va_S.rf
  have hl := lv_entry ([.ref a0.1, .int p1, .int p2, .int p3]) (n := 4) (Nat.le_of_ble_eq_true rfl)
  have hent : entryFrame m args 4 = F0 m 0 ((lg_sl ([.ref a0.1, .int p1, .int p2, .int p3]) ++ List.replicate (4 - (lg_sl ([.ref a0.1, .int p1, .int p2, .int p3])).length) Slot.unset).toArray) [] := by rw [hargs, lg_entry_eq]
  rw [hent]
  clear hent
  generalize (lg_sl ([.ref a0.1, .int p1, .int p2, .int p3]) ++ List.replicate (4 - (lg_sl ([.ref a0.1, .int p1, .int p2, .int p3])).length) Slot.unset).toArray = ls at hl ⊢
  have hl : lv_has ls 4 [(0, .ref a0.1), (1, .int p1), (2, .int p2), (3, .int p3)] := hl
  have lk0 := hts (Cond.fieldLink RX5 36 "EnginesOnList" "planner" "LEnginesOnList$Planner;") (List.mem_of_getElem? (i := 1) rfl)
  have lk1 := hts (Cond.fieldLink RX5 19 "EnginesOnList" "now" "LEnginesOnList$World;") (List.mem_of_getElem? (i := 2) rfl)
  have lk2 := hts (Cond.initialized RX3) (List.mem_of_getElem? (i := 10) rfl)
  have lk3 := hts (Cond.instanceMethod yX3_search) (List.mem_of_getElem? (i := 9) rfl)
  have lk4 := hts (Cond.selects RX3 yX3_search yX3_search) (List.mem_of_getElem? (i := 11) rfl)
  have lk5 := va_Nw.use (A := args) rfl (hE.1 _ nw_18)
  have lk6 := va_Nw.use (A := args) rfl (hE.1 _ nw_19)
  have hinX5 : ∀ w ∈ wsX50, w ∈ wsX5_plan := by decide +kernel
  have hinX3 : ∀ w ∈ wsX30, w ∈ wsX5_plan := by decide +kernel
  have fin : ∀ (pc : Nat) (v : Int32) (u : ST_X5) (H : Heap) (locs : List Loc) (ls : Array Slot), some (v, u) = some out → va_P G.1 vwCl (ce_X5 G.2.1 a0 u) H → va_D A (ce_X5 G.2.1 a0 u) → va_S A s.heap H locs → decode cX5_plan pc = .ok (.ireturn, 1) → W p l e (headSpec wsX5_plan rm_X5_plan).room s m args below meth c H locs 0 0 (MQ below (QWr G (fun u => ce_X5 G.2.1 a0 u) out A) args s 0 0 A) (F0 m pc ls [.int v]) := fun pc v u H locs ls ho hP hD hS hd => W.iret (v := v) hx hb hr (fun t ht hW => ⟨⟨v, u, rfl, ob_pair ho, by first | (rw [ht]; exact hP) | (dsimp only; rw [ht]; exact hP), hD⟩, hS.F ht⟩) hS.2.2 hd
  generalize MQ below (QWr G (fun u => ce_X5 G.2.1 a0 u) out A) args s 0 0 A = Q at fin ⊢
  have blk14 : ∀ (S0 : ST_X5), f_X5_plan_b14 S0 = some out → ∀ (H : Heap) (locs : List Loc), va_P G.1 vwCl (ce_X5 G.2.1 a0 S0) H → va_D A (ce_X5 G.2.1 a0 S0) → va_S A s.heap H locs → ∀ (ls : Array Slot), lv_has ls 4 [(0, .ref a0.1)] → W p l e (headSpec wsX5_plan rm_X5_plan).room s m args below meth c H locs 0 0 Q (F0 m 14 ls []) := by
    intro S0 hf H locs hP hD hS ls hl
    rw [f_X5_plan_b14] at hf
    refine lv_aload_n hx hb dX5_plan_14 rfl (lv_at hl 0 rfl) ?_
    refine lv_bipush (v := (-4)) hx hb dX5_plan_15 (by decide) ?_
    obtain ⟨r1, hr1, hf⟩ := ob_bind hf
    have hFc := va_free (wc := ce_X5 G.2.1 a0 S0) hD hS hA [0, 1, 2, 3, 4, 5, 6, 7, 8, 9, 10, 11, 12, 13, 14, 15, 16, 17, 18, 19, 20, 21, 22, 23, 24, 25, 26, 27, 28, 29, 30, 31, 32, 33, 34, 35, 36, 37, 38] rfl
    refine zc_wr (cf := (fun u => ce_X5 G.2.1 a0 u)) (ws' := ce_X5 G.2.1 a0 r1.2) (va_runV (As := [.int (-4)]) (rest := []) ⟨hx, hb, hml, hown, hts⟩ (c_X5_refuse l G a0 H.size S0 (-4) _ hr1) (cwV 1 hts gX5_plan_X5_refuse rfl rfl rfl (by decide +kernel) ⟨Nat.le_of_ble_eq_true rfl, Nat.le_of_ble_eq_true rfl⟩) ⟨PcM.blind, va_recv hK hP (ci := 5) (q0 := 0) rfl rfl, PcM.ok hP hD hK hE hS hFc⟩ rfl rfl hl.1 rfl (lv_room (Nat.le_of_ble_eq_true rfl)) dX5_plan_17 ⟨Nat.le_refl _, Nat.le_refl _⟩) hP hD hS hA [0, 1, 2, 3, 4, 5, 6, 7, 8, 9, 10, 11, 12, 13, 14, 15, 16, 17, 18, 19, 20, 21, 22, 23, 24, 25, 26, 27, 28, 29, 30, 31, 32, 33, 34, 35, 36, 37, 38] [] [0, 1, 2, 3, 4, 5, 6, 7, 8, 9, 10, 11, 12, 13, 14, 15, 16, 17, 18, 19, 20, 21, 22, 23, 24, 25, 26, 27, 28, 29, 30, 31, 32, 33, 34, 35, 36, 37, 38] rfl rfl (by decide) (by decide) (by decide) rfl (fun H locs hP hD hS => ?_)
    exact fin _ _ _ _ _ _ hf hP hD hS dX5_plan_20
  have blk32 : ∀ (S0 : ST_X5), f_X5_plan_b32 S0 = some out → ∀ (H : Heap) (locs : List Loc), va_P G.1 vwCl (ce_X5 G.2.1 a0 S0) H → va_D A (ce_X5 G.2.1 a0 S0) → va_S A s.heap H locs → ∀ (ls : Array Slot), lv_has ls 4 [(0, .ref a0.1)] → W p l e (headSpec wsX5_plan rm_X5_plan).room s m args below meth c H locs 0 0 Q (F0 m 32 ls []) := by
    intro S0 hf H locs hP hD hS ls hl
    rw [f_X5_plan_b32] at hf
    refine lv_aload_n hx hb dX5_plan_32 rfl (lv_at hl 0 rfl) ?_
    refine lv_bipush (v := (-6)) hx hb dX5_plan_33 (by decide) ?_
    obtain ⟨r2, hr2, hf⟩ := ob_bind hf
    have hFc := va_free (wc := ce_X5 G.2.1 a0 S0) hD hS hA [0, 1, 2, 3, 4, 5, 6, 7, 8, 9, 10, 11, 12, 13, 14, 15, 16, 17, 18, 19, 20, 21, 22, 23, 24, 25, 26, 27, 28, 29, 30, 31, 32, 33, 34, 35, 36, 37, 38] rfl
    refine zc_wr (cf := (fun u => ce_X5 G.2.1 a0 u)) (ws' := ce_X5 G.2.1 a0 r2.2) (va_runV (As := [.int (-6)]) (rest := []) ⟨hx, hb, hml, hown, hts⟩ (c_X5_refuse l G a0 H.size S0 (-6) _ hr2) (cwV 1 hts gX5_plan_X5_refuse rfl rfl rfl (by decide +kernel) ⟨Nat.le_of_ble_eq_true rfl, Nat.le_of_ble_eq_true rfl⟩) ⟨PcM.blind, va_recv hK hP (ci := 5) (q0 := 0) rfl rfl, PcM.ok hP hD hK hE hS hFc⟩ rfl rfl hl.1 rfl (lv_room (Nat.le_of_ble_eq_true rfl)) dX5_plan_35 ⟨Nat.le_refl _, Nat.le_refl _⟩) hP hD hS hA [0, 1, 2, 3, 4, 5, 6, 7, 8, 9, 10, 11, 12, 13, 14, 15, 16, 17, 18, 19, 20, 21, 22, 23, 24, 25, 26, 27, 28, 29, 30, 31, 32, 33, 34, 35, 36, 37, 38] [] [0, 1, 2, 3, 4, 5, 6, 7, 8, 9, 10, 11, 12, 13, 14, 15, 16, 17, 18, 19, 20, 21, 22, 23, 24, 25, 26, 27, 28, 29, 30, 31, 32, 33, 34, 35, 36, 37, 38] rfl rfl (by decide) (by decide) (by decide) rfl (fun H locs hP hD hS => ?_)
    exact fin _ _ _ _ _ _ hf hP hD hS dX5_plan_38
  have go : ∀ (H : Heap) (locs : List Loc), va_P G.1 vwCl (ce_X5 G.2.1 a0 S0) H → va_D A (ce_X5 G.2.1 a0 S0) → va_S A s.heap H locs → ∀ (ls : Array Slot), lv_has ls 4 [(0, .ref a0.1), (1, .int p1), (2, .int p2), (3, .int p3)] → W p l e (headSpec wsX5_plan rm_X5_plan).room s m args below meth c H locs 0 0 Q (F0 m 0 ls []) := by
    intro H locs hP hD hS ls hl
    refine lv_iload_n hx hb dX5_plan_0 rfl (lv_at hl 1 rfl) ?_
    refine lv_iconst (v := 1) hx hb dX5_plan_1 (by decide) ?_
    refine lv_icmp_lt (tgt := 14) hx hb dX5_plan_2 (by decide) (fun c3 => ?_) (fun c3 => ?_)
    · replace hf := ob_pos c3 hf
      exact blk14 _ hf _ _ hP hD hS _ (lv_sub hl [0] rfl)
    · replace hf := ob_neg c3 hf
      refine lv_iload_n hx hb dX5_plan_5 rfl (lv_at hl 2 rfl) ?_
      refine lv_if_lt (tgt := 14) hx hb dX5_plan_6 (by decide) (fun c4 => ?_) (fun c4 => ?_)
      · replace hf := ob_pos c4 hf
        exact blk14 _ hf _ _ hP hD hS _ (lv_sub hl [0] rfl)
      · replace hf := ob_neg c4 hf
        refine lv_iload_n hx hb dX5_plan_9 rfl (lv_at hl 3 rfl) ?_
        refine lv_iconst (v := (-1)) hx hb dX5_plan_10 (by decide) ?_
        refine lv_icmp_ge (tgt := 21) hx hb dX5_plan_11 (by decide) (fun c5 => ?_) (fun c5 => ?_)
        · replace hf := ob_pos c5 hf
          refine lv_iload_n hx hb dX5_plan_21 rfl (lv_at hl 1 rfl) ?_
          refine lv_iconst (v := 5) hx hb dX5_plan_22 (by decide) ?_
          refine lv_icmp_gt (tgt := 32) hx hb dX5_plan_23 (by decide) (fun c6 => ?_) (fun c6 => ?_)
          · replace hf := ob_pos c6 hf
            exact blk32 _ hf _ _ hP hD hS _ (lv_sub hl [0] rfl)
          · replace hf := ob_neg c6 hf
            refine lv_iload_n hx hb dX5_plan_26 rfl (lv_at hl 2 rfl) ?_
            refine lv_bipush (v := 20) hx hb dX5_plan_27 (by decide) ?_
            refine lv_icmp_le (tgt := 39) hx hb dX5_plan_29 (by decide) (fun c7 => ?_) (fun c7 => ?_)
            · replace hf := ob_pos c7 hf
              refine lv_iload_n hx hb dX5_plan_39 rfl (lv_at hl 3 rfl) ?_
              refine lv_iload_n hx hb dX5_plan_40 rfl (lv_at hl 1 rfl) ?_
              refine lv_icmp_lt (tgt := 47) hx hb dX5_plan_41 (by decide) (fun c8 => ?_) (fun c8 => ?_)
              · replace hf := ob_pos c8 hf
                refine lv_aload_n hx hb dX5_plan_47 rfl (lv_at hl 0 rfl) ?_
                refine va_get (D := G.1) (ci := 5) (v := .ref a0.2.2.2.2.2.1.1) (C := RX5) (T := TX5) (N := 9) hx hb hts hinX5 hown hK hP 0 rfl rfl 5 (by decide) lk0 (fun _ h9 => h9) rfl dX5_plan_48 ?_
                refine lv_aload_n hx hb dX5_plan_51 rfl (lv_at hl 0 rfl) ?_
                refine va_get (D := G.1) (ci := 5) (v := .ref a0.2.2.1.1) (C := RX5) (T := TX5) (N := 9) hx hb hts hinX5 hown hK hP 0 rfl rfl 1 (by decide) lk1 (fun _ h9 => h9) rfl dX5_plan_52 ?_
                refine lv_iload_n hx hb dX5_plan_55 rfl (lv_at hl 1 rfl) ?_
                refine lv_iload_n hx hb dX5_plan_56 rfl (lv_at hl 2 rfl) ?_
                obtain ⟨r9, hr9, hf⟩ := ob_bind hf
                have hPc : va_P G.1 vwCl (ce_X3 G.2.1 a0.2.2.2.2.2.1 S0.2.2.2.2.2.1 ++ ce_X4 G.2.1 a0.2.2.1 S0.2.1) H := hP.sub [33, 34, 35, 36, 3, 4, 5, 6, 7, 8, 9, 10, 11, 12, 13, 14] rfl
                have hDc : va_D A (ce_X3 G.2.1 a0.2.2.2.2.2.1 S0.2.2.2.2.2.1 ++ ce_X4 G.2.1 a0.2.2.1 S0.2.1) := hD.sub [33, 34, 35, 36, 3, 4, 5, 6, 7, 8, 9, 10, 11, 12, 13, 14] (by decide) rfl
                have hFc := va_free (wc := ce_X3 G.2.1 a0.2.2.2.2.2.1 S0.2.2.2.2.2.1 ++ ce_X4 G.2.1 a0.2.2.1 S0.2.1) hD hS hA [33, 34, 35, 36, 3, 4, 5, 6, 7, 8, 9, 10, 11, 12, 13, 14] rfl
                refine zc_wv (cf := (fun u => ce_X3 G.2.1 a0.2.2.2.2.2.1 u ++ ce_X4 G.2.1 a0.2.2.1 S0.2.1)) (ws' := ce_X5 G.2.1 a0 (S0.1, S0.2.1, S0.2.2.1, S0.2.2.2.1, S0.2.2.2.2.1, r9, S0.2.2.2.2.2.2.1, S0.2.2.2.2.2.2.2.1, S0.2.2.2.2.2.2.2.2)) (va_runVN (As := [.ref a0.2.2.1.1, .int p1, .int p2]) (rest := []) ⟨hx, hb, hml, hown, hts⟩ (c_X3_search l G a0.2.2.2.2.2.1 a0.2.2.1 H.size S0.2.2.2.2.2.1 S0.2.1 p1 p2 _ hr9) (⟨va_cnB 3 hts gX5_plan_X3_search_n116 rfl rfl rfl (hE.1 _ nw_48) lk2 (by decide +kernel) ⟨Nat.le_of_ble_eq_true rfl, Nat.le_of_ble_eq_true rfl⟩, lk3, lk4⟩) ⟨PcM.blind, va_recv hK hPc (ci := 3) (q0 := 0) rfl rfl, PcM.ok hPc hDc hK hE hS hFc⟩ rfl rfl hl.1 rfl (lv_room (Nat.le_of_ble_eq_true rfl)) dX5_plan_57 ⟨Nat.le_refl _, Nat.le_refl _⟩) hP hD hS hA [33, 34, 35, 36, 3, 4, 5, 6, 7, 8, 9, 10, 11, 12, 13, 14] [0, 1, 2, 15, 16, 17, 18, 19, 20, 21, 22, 23, 24, 25, 26, 27, 28, 29, 30, 31, 32, 37, 38] [0, 1, 2, 27, 28, 29, 30, 31, 32, 33, 34, 35, 36, 37, 38, 3, 4, 5, 6, 7, 8, 9, 10, 11, 12, 13, 14, 15, 16, 17, 18, 19, 20, 23, 24, 25, 26, 21, 22] rfl rfl (by decide) (by decide) (by decide) rfl (fun H locs hP hD hS => ?_)
                refine lv_iload_n hx hb dX5_plan_60 rfl (lv_at hl 3 rfl) ?_
                refine lv_if_ge (tgt := 74) hx hb dX5_plan_61 (by decide) (fun c10 => ?_) (fun c10 => ?_)
                · replace hf := ob_pos c10 hf
                  refine lv_aload_n hx hb dX5_plan_74 rfl (lv_at hl 0 rfl) ?_
                  refine va_get (D := G.1) (ci := 5) (v := .ref a0.2.2.2.2.2.1.1) (C := RX5) (T := TX5) (N := 9) hx hb hts hinX5 hown hK hP 0 rfl rfl 5 (by decide) lk0 (fun _ h9 => h9) rfl dX5_plan_75 ?_
                  refine va_getN (D := G.1) (ci := 3) (v := .ref a0.2.2.2.2.2.1.2.2.2) (C := RX3) (T := TX3) (N := 5) hx hb hts hinX3 hown hK hP 33 rfl rfl 2 (by decide) lk5 (fun _ h9 => h9) rfl dX5_plan_78 ?_
                  refine lv_iload_n hx hb dX5_plan_81 rfl (lv_at hl 3 rfl) ?_
                  obtain ⟨hg11, hf⟩ := ob_guard hf
                  refine va_iald hx hb hK hP 36 0 rfl rfl hg11 dX5_plan_82 ?_
                  exact fin _ _ _ _ _ _ hf hP hD hS dX5_plan_83
                · replace hf := ob_neg c10 hf
                  refine lv_aload_n hx hb dX5_plan_64 rfl (lv_at hl 0 rfl) ?_
                  refine va_get (D := G.1) (ci := 5) (v := .ref a0.2.2.2.2.2.1.1) (C := RX5) (T := TX5) (N := 9) hx hb hts hinX5 hown hK hP 0 rfl rfl 5 (by decide) lk0 (fun _ h9 => h9) rfl dX5_plan_65 ?_
                  refine va_getN (D := G.1) (ci := 3) (v := .int r9.2.2.2.1) (C := RX3) (T := TX3) (N := 5) hx hb hts hinX3 hown hK hP 33 rfl rfl 3 (by decide) lk6 (fun _ h9 => h9) rfl dX5_plan_68 ?_
                  refine lv_goto (tgt := 83) hx hb dX5_plan_71 (by decide) ?_
                  exact fin _ _ _ _ _ _ hf hP hD hS dX5_plan_83
              · replace hf := ob_neg c8 hf
                refine lv_bipush (v := (-9)) hx hb dX5_plan_44 (by decide) ?_
                exact fin _ _ _ _ _ _ hf hP hD hS dX5_plan_46
            · replace hf := ob_neg c7 hf
              exact blk32 _ hf _ _ hP hD hS _ (lv_sub hl [0] rfl)
        · replace hf := ob_neg c5 hf
          exact blk14 _ hf _ _ hP hD hS _ (lv_sub hl [0] rfl)
  exact go _ _ hP hD hS _ hl
abbrev rm_X5_await : Room := { frames := 5, cells := 0, slots := 0, locals := 117 }
set_option maxHeartbeats 4000000 in
set_option maxRecDepth 100000 in
theorem c_X5_await (l : Launch) (G : zG) (a0 : AT_X5) (sz : Nat) (S0 : ST_X5) (p1 : Int32) (p2 : Int32) (out : Int32 × ST_X5) (hf : f_X5_await S0 p1 p2 = some out) : Met l yX5_await wsX5_await rm_X5_await (PcM G (ce_X5 G.2.1 a0 S0) [.ref a0.1, .int p1, .int p2] sz) (QWr G (fun u => ce_X5 G.2.1 a0 u) out (va_A (ce_X5 G.2.1 a0 S0) sz)) 0 0 (va_A (ce_X5 G.2.1 a0 S0) sz) := by
  rw [f_X5_await] at hf
  refine Met.ofW (cc := cX5_await) (maxL := 3) (ret := (some .int)) (by decide) rfl ?_
  intro p e s m args below meth c s₁ B hml hv
  obtain ⟨hargs, hsz, hP, hK, hD0, hE⟩ := hv
  have hx := B.exec
  have hb := B.bytes
  have hr := B.returns
  have hts := atoms_spec (ws := wsX5_await) B.pre
  have hown : s.vm.findClass RX5 = some m.cls := findClass_of_methodNamed B.named
  have hlocks := B.notSynchronized
  subst hsz
  have hD := hD0.self (sz := s.heap.size)
  generalize hAe : va_A (ce_X5 G.2.1 a0 S0) s.heap.size = A at hD hE ⊢
  have hA : ∀ q : Nat, s.heap.size ≤ q → A q := fun q h => by rw [← hAe]; exact Or.inr h
  have hS : va_S A s.heap s.heap [] := va_S.rf
  have hl := lv_entry ([.ref a0.1, .int p1, .int p2]) (n := 3) (Nat.le_of_ble_eq_true rfl)
  have hent : entryFrame m args 3 = F0 m 0 ((lg_sl ([.ref a0.1, .int p1, .int p2]) ++ List.replicate (3 - (lg_sl ([.ref a0.1, .int p1, .int p2])).length) Slot.unset).toArray) [] := by rw [hargs, lg_entry_eq]
  rw [hent]
  clear hent
  generalize (lg_sl ([.ref a0.1, .int p1, .int p2]) ++ List.replicate (3 - (lg_sl ([.ref a0.1, .int p1, .int p2])).length) Slot.unset).toArray = ls at hl ⊢
  have hl : lv_has ls 3 [(0, .ref a0.1), (1, .int p1), (2, .int p2)] := hl
  have lk0 := hts (Cond.fieldLink RX5 19 "EnginesOnList" "now" "LEnginesOnList$World;") (List.mem_of_getElem? (i := 1) rfl)
  have lk1 := va_Nw.use (A := args) rfl (hE.1 _ nw_14)
  have lk2 := hts (Cond.initialized RX1) (List.mem_of_getElem? (i := 3) rfl)
  have lk3 := hts (Cond.instanceMethod yX1_knows) (List.mem_of_getElem? (i := 2) rfl)
  have lk4 := hts (Cond.selects RX1 yX1_knows yX1_knows) (List.mem_of_getElem? (i := 4) rfl)
  have lk5 := hts (Cond.initialized RX4) (List.mem_of_getElem? (i := 17) rfl)
  have lk6 := hts (Cond.instanceMethod yX4_daysUntil) (List.mem_of_getElem? (i := 16) rfl)
  have lk7 := hts (Cond.selects RX4 yX4_daysUntil yX4_daysUntil) (List.mem_of_getElem? (i := 18) rfl)
  have hinX5 : ∀ w ∈ wsX50, w ∈ wsX5_await := by decide +kernel
  have hinX4 : ∀ w ∈ wsX40, w ∈ wsX5_await := by decide +kernel
  have fin : ∀ (pc : Nat) (v : Int32) (u : ST_X5) (H : Heap) (locs : List Loc) (ls : Array Slot), some (v, u) = some out → va_P G.1 vwCl (ce_X5 G.2.1 a0 u) H → va_D A (ce_X5 G.2.1 a0 u) → va_S A s.heap H locs → decode cX5_await pc = .ok (.ireturn, 1) → W p l e (headSpec wsX5_await rm_X5_await).room s m args below meth c H locs 0 0 (MQ below (QWr G (fun u => ce_X5 G.2.1 a0 u) out A) args s 0 0 A) (F0 m pc ls [.int v]) := fun pc v u H locs ls ho hP hD hS hd => W.iret (v := v) hx hb hr (fun t ht hW => ⟨⟨v, u, rfl, ob_pair ho, by first | (rw [ht]; exact hP) | (dsimp only; rw [ht]; exact hP), hD⟩, hS.F ht⟩) hS.2.2 hd
  generalize MQ below (QWr G (fun u => ce_X5 G.2.1 a0 u) out A) args s 0 0 A = Q at fin ⊢
  have blk21 : ∀ (S0 : ST_X5), f_X5_await_b21 S0 = some out → ∀ (H : Heap) (locs : List Loc), va_P G.1 vwCl (ce_X5 G.2.1 a0 S0) H → va_D A (ce_X5 G.2.1 a0 S0) → va_S A s.heap H locs → ∀ (ls : Array Slot), lv_has ls 3 [(0, .ref a0.1)] → W p l e (headSpec wsX5_await rm_X5_await).room s m args below meth c H locs 0 0 Q (F0 m 21 ls []) := by
    intro S0 hf H locs hP hD hS ls hl
    rw [f_X5_await_b21] at hf
    refine lv_aload_n hx hb dX5_await_21 rfl (lv_at hl 0 rfl) ?_
    refine lv_iconst (v := (-1)) hx hb dX5_await_22 (by decide) ?_
    obtain ⟨r1, hr1, hf⟩ := ob_bind hf
    have hFc := va_free (wc := ce_X5 G.2.1 a0 S0) hD hS hA [0, 1, 2, 3, 4, 5, 6, 7, 8, 9, 10, 11, 12, 13, 14, 15, 16, 17, 18, 19, 20, 21, 22, 23, 24, 25, 26, 27, 28, 29, 30, 31, 32, 33, 34, 35, 36, 37, 38] rfl
    refine zc_wr (cf := (fun u => ce_X5 G.2.1 a0 u)) (ws' := ce_X5 G.2.1 a0 r1.2) (va_runV (As := [.int (-1)]) (rest := []) ⟨hx, hb, hml, hown, hts⟩ (c_X5_refuse l G a0 H.size S0 (-1) _ hr1) (cwV 1 hts gX5_await_X5_refuse rfl rfl rfl (by decide +kernel) ⟨Nat.le_of_ble_eq_true rfl, Nat.le_of_ble_eq_true rfl⟩) ⟨PcM.blind, va_recv hK hP (ci := 5) (q0 := 0) rfl rfl, PcM.ok hP hD hK hE hS hFc⟩ rfl rfl hl.1 rfl (lv_room (Nat.le_of_ble_eq_true rfl)) dX5_await_23 ⟨Nat.le_refl _, Nat.le_refl _⟩) hP hD hS hA [0, 1, 2, 3, 4, 5, 6, 7, 8, 9, 10, 11, 12, 13, 14, 15, 16, 17, 18, 19, 20, 21, 22, 23, 24, 25, 26, 27, 28, 29, 30, 31, 32, 33, 34, 35, 36, 37, 38] [] [0, 1, 2, 3, 4, 5, 6, 7, 8, 9, 10, 11, 12, 13, 14, 15, 16, 17, 18, 19, 20, 21, 22, 23, 24, 25, 26, 27, 28, 29, 30, 31, 32, 33, 34, 35, 36, 37, 38] rfl rfl (by decide) (by decide) (by decide) rfl (fun H locs hP hD hS => ?_)
    exact fin _ _ _ _ _ _ hf hP hD hS dX5_await_26
  have go : ∀ (H : Heap) (locs : List Loc), va_P G.1 vwCl (ce_X5 G.2.1 a0 S0) H → va_D A (ce_X5 G.2.1 a0 S0) → va_S A s.heap H locs → ∀ (ls : Array Slot), lv_has ls 3 [(0, .ref a0.1), (1, .int p1), (2, .int p2)] → W p l e (headSpec wsX5_await rm_X5_await).room s m args below meth c H locs 0 0 Q (F0 m 0 ls []) := by
    intro H locs hP hD hS ls hl
    refine lv_aload_n hx hb dX5_await_0 rfl (lv_at hl 0 rfl) ?_
    refine va_get (D := G.1) (ci := 5) (v := .ref a0.2.2.1.1) (C := RX5) (T := TX5) (N := 9) hx hb hts hinX5 hown hK hP 0 rfl rfl 1 (by decide) lk0 (fun _ h9 => h9) rfl dX5_await_1 ?_
    refine va_getN (D := G.1) (ci := 4) (v := .ref a0.2.2.1.2.1.1) (C := RX4) (T := TX4) (N := 3) hx hb hts hinX4 hown hK hP 3 rfl rfl 0 (by decide) lk1 (fun _ h9 => h9) rfl dX5_await_4 ?_
    refine lv_iload_n hx hb dX5_await_7 rfl (lv_at hl 1 rfl) ?_
    obtain ⟨r2, hr2, hf⟩ := ob_bind hf
    have hPc : va_P G.1 vwCl (ce_X1 G.2.1 a0.2.2.1.2.1 S0.2.1.1) H := hP.sub [4, 5, 6, 7, 8, 9] rfl
    have hDc : va_D A (ce_X1 G.2.1 a0.2.2.1.2.1 S0.2.1.1) := hD.sub [4, 5, 6, 7, 8, 9] (by decide) rfl
    have hFc := va_free (wc := ce_X1 G.2.1 a0.2.2.1.2.1 S0.2.1.1) hD hS hA [4, 5, 6, 7, 8, 9] rfl
    refine zc_ro (va_runVN (As := [.int p1]) (rest := []) ⟨hx, hb, hml, hown, hts⟩ (c_X1_knows l G a0.2.2.1.2.1 H.size S0.2.1.1 p1 _ hr2) (⟨va_cnB 1 hts gX5_await_X1_knows_n66 rfl rfl rfl (hE.1 _ nw_36) lk2 (by decide +kernel) ⟨Nat.le_of_ble_eq_true rfl, Nat.le_of_ble_eq_true rfl⟩, lk3, lk4⟩) ⟨PcM.blind, va_recv hK hPc (ci := 1) (q0 := 0) rfl rfl, PcM.ok hPc hDc hK hE hS hFc⟩ rfl rfl hl.1 rfl (lv_room (Nat.le_of_ble_eq_true rfl)) dX5_await_8 ⟨Nat.le_refl _, Nat.le_refl _⟩) hP hD hS hA [4, 5, 6, 7, 8, 9] rfl (fun H locs hP hS => ?_)
    refine lv_if_eq (tgt := 21) hx hb dX5_await_11 (by decide) (fun c3 => ?_) (fun c3 => ?_)
    · replace hf := ob_pos c3 hf
      exact blk21 _ hf _ _ hP hD hS _ (lv_sub hl [0] rfl)
    · replace hf := ob_neg c3 hf
      refine lv_iload_n hx hb dX5_await_14 rfl (lv_at hl 2 rfl) ?_
      obtain ⟨r4, hr4, hf⟩ := ob_bind hf
      have hPc : va_P G.1 vwCl (([] : va_W)) H := hP.sub [] rfl
      have hDc : va_D A (([] : va_W)) := hD.sub [] (by decide) rfl
      have hFc := va_free (wc := ([] : va_W)) hD hS hA [] rfl
      refine zc_ro (va_runS (As := [.int p2]) (rest := []) ⟨hx, hb, hml, hown, hts⟩ (c_X5_isPlace l G H.size p2 _ hr4) (va_cwS 1 hts gX5_await_X5_isPlace rfl rfl rfl (by decide +kernel) ⟨Nat.le_of_ble_eq_true rfl, Nat.le_of_ble_eq_true rfl⟩) ⟨PcM.blind, PcM.ok hPc hDc hK hE hS hFc⟩ rfl rfl hl.1 rfl (lv_room (Nat.le_of_ble_eq_true rfl)) dX5_await_15 ⟨Nat.le_refl _, Nat.le_refl _⟩) hP hD hS hA [] rfl (fun H locs hP hS => ?_)
      refine lv_if_ne (tgt := 27) hx hb dX5_await_18 (by decide) (fun c5 => ?_) (fun c5 => ?_)
      · replace hf := ob_neg c5 hf
        refine lv_aload_n hx hb dX5_await_27 rfl (lv_at hl 0 rfl) ?_
        refine va_get (D := G.1) (ci := 5) (v := .ref a0.2.2.1.1) (C := RX5) (T := TX5) (N := 9) hx hb hts hinX5 hown hK hP 0 rfl rfl 1 (by decide) lk0 (fun _ h9 => h9) rfl dX5_await_28 ?_
        refine lv_iload_n hx hb dX5_await_31 rfl (lv_at hl 1 rfl) ?_
        refine lv_iload_n hx hb dX5_await_32 rfl (lv_at hl 2 rfl) ?_
        obtain ⟨r6, hr6, hf⟩ := ob_bind hf
        have hPc : va_P G.1 vwCl (ce_X4 G.2.1 a0.2.2.1 S0.2.1) H := hP.sub [3, 4, 5, 6, 7, 8, 9, 10, 11, 12, 13, 14] rfl
        have hDc : va_D A (ce_X4 G.2.1 a0.2.2.1 S0.2.1) := hD.sub [3, 4, 5, 6, 7, 8, 9, 10, 11, 12, 13, 14] (by decide) rfl
        have hFc := va_free (wc := ce_X4 G.2.1 a0.2.2.1 S0.2.1) hD hS hA [3, 4, 5, 6, 7, 8, 9, 10, 11, 12, 13, 14] rfl
        refine zc_ro (va_runVN (As := [.int p1, .int p2]) (rest := []) ⟨hx, hb, hml, hown, hts⟩ (c_X4_daysUntil l G a0.2.2.1 H.size S0.2.1 p1 p2 _ hr6) (⟨va_cnB 2 hts gX5_await_X4_daysUntil_n126 rfl rfl rfl (hE.1 _ nw_51) lk5 (by decide +kernel) ⟨Nat.le_of_ble_eq_true rfl, Nat.le_of_ble_eq_true rfl⟩, lk6, lk7⟩) ⟨PcM.blind, va_recv hK hPc (ci := 4) (q0 := 0) rfl rfl, PcM.ok hPc hDc hK hE hS hFc⟩ rfl rfl hl.1 rfl (lv_room (Nat.le_of_ble_eq_true rfl)) dX5_await_33 ⟨Nat.le_refl _, Nat.le_refl _⟩) hP hD hS hA [3, 4, 5, 6, 7, 8, 9, 10, 11, 12, 13, 14] rfl (fun H locs hP hS => ?_)
        exact fin _ _ _ _ _ _ hf hP hD hS dX5_await_36
      · replace hf := ob_pos c5 hf
        exact blk21 _ hf _ _ hP hD hS _ (lv_sub hl [0] rfl)
  exact go _ _ hP hD hS _ hl
abbrev rm_X5_chase : Room := { frames := 5, cells := 0, slots := 0, locals := 117 }
set_option maxHeartbeats 4000000 in
set_option maxRecDepth 100000 in
theorem c_X5_chase (l : Launch) (G : zG) (a0 : AT_X5) (sz : Nat) (S0 : ST_X5) (p1 : Int32) (out : Int32 × ST_X5) (hf : f_X5_chase S0 p1 = some out) : Met l yX5_chase wsX5_chase rm_X5_chase (PcM G (ce_X5 G.2.1 a0 S0) [.ref a0.1, .int p1] sz) (QWr G (fun u => ce_X5 G.2.1 a0 u) out (va_A (ce_X5 G.2.1 a0 S0) sz)) 0 0 (va_A (ce_X5 G.2.1 a0 S0) sz) := by
  rw [f_X5_chase] at hf
  refine Met.ofW (cc := cX5_chase) (maxL := 2) (ret := (some .int)) (by decide) rfl ?_
  intro p e s m args below meth c s₁ B hml hv
  obtain ⟨hargs, hsz, hP, hK, hD0, hE⟩ := hv
  have hx := B.exec
  have hb := B.bytes
  have hr := B.returns
  have hts := atoms_spec (ws := wsX5_chase) B.pre
  have hown : s.vm.findClass RX5 = some m.cls := findClass_of_methodNamed B.named
  have hlocks := B.notSynchronized
  subst hsz
  have hD := hD0.self (sz := s.heap.size)
  generalize hAe : va_A (ce_X5 G.2.1 a0 S0) s.heap.size = A at hD hE ⊢
  have hA : ∀ q : Nat, s.heap.size ≤ q → A q := fun q h => by rw [← hAe]; exact Or.inr h
  have hS : va_S A s.heap s.heap [] := va_S.rf
  have hl := lv_entry ([.ref a0.1, .int p1]) (n := 2) (Nat.le_of_ble_eq_true rfl)
  have hent : entryFrame m args 2 = F0 m 0 ((lg_sl ([.ref a0.1, .int p1]) ++ List.replicate (2 - (lg_sl ([.ref a0.1, .int p1])).length) Slot.unset).toArray) [] := by rw [hargs, lg_entry_eq]
  rw [hent]
  clear hent
  generalize (lg_sl ([.ref a0.1, .int p1]) ++ List.replicate (2 - (lg_sl ([.ref a0.1, .int p1])).length) Slot.unset).toArray = ls at hl ⊢
  have hl : lv_has ls 2 [(0, .ref a0.1), (1, .int p1)] := hl
  have lk0 := hts (Cond.fieldLink RX5 19 "EnginesOnList" "now" "LEnginesOnList$World;") (List.mem_of_getElem? (i := 1) rfl)
  have lk1 := va_Nw.use (A := args) rfl (hE.1 _ nw_14)
  have lk2 := hts (Cond.initialized RX1) (List.mem_of_getElem? (i := 3) rfl)
  have lk3 := hts (Cond.instanceMethod yX1_knows) (List.mem_of_getElem? (i := 2) rfl)
  have lk4 := hts (Cond.selects RX1 yX1_knows yX1_knows) (List.mem_of_getElem? (i := 4) rfl)
  have lk5 := hts (Cond.initialized RX4) (List.mem_of_getElem? (i := 14) rfl)
  have lk6 := hts (Cond.instanceMethod yX4_daysUntil) (List.mem_of_getElem? (i := 13) rfl)
  have lk7 := hts (Cond.selects RX4 yX4_daysUntil yX4_daysUntil) (List.mem_of_getElem? (i := 15) rfl)
  have hinX5 : ∀ w ∈ wsX50, w ∈ wsX5_chase := by decide +kernel
  have hinX4 : ∀ w ∈ wsX40, w ∈ wsX5_chase := by decide +kernel
  have fin : ∀ (pc : Nat) (v : Int32) (u : ST_X5) (H : Heap) (locs : List Loc) (ls : Array Slot), some (v, u) = some out → va_P G.1 vwCl (ce_X5 G.2.1 a0 u) H → va_D A (ce_X5 G.2.1 a0 u) → va_S A s.heap H locs → decode cX5_chase pc = .ok (.ireturn, 1) → W p l e (headSpec wsX5_chase rm_X5_chase).room s m args below meth c H locs 0 0 (MQ below (QWr G (fun u => ce_X5 G.2.1 a0 u) out A) args s 0 0 A) (F0 m pc ls [.int v]) := fun pc v u H locs ls ho hP hD hS hd => W.iret (v := v) hx hb hr (fun t ht hW => ⟨⟨v, u, rfl, ob_pair ho, by first | (rw [ht]; exact hP) | (dsimp only; rw [ht]; exact hP), hD⟩, hS.F ht⟩) hS.2.2 hd
  generalize MQ below (QWr G (fun u => ce_X5 G.2.1 a0 u) out A) args s 0 0 A = Q at fin ⊢
  have go : ∀ (H : Heap) (locs : List Loc), va_P G.1 vwCl (ce_X5 G.2.1 a0 S0) H → va_D A (ce_X5 G.2.1 a0 S0) → va_S A s.heap H locs → ∀ (ls : Array Slot), lv_has ls 2 [(0, .ref a0.1), (1, .int p1)] → W p l e (headSpec wsX5_chase rm_X5_chase).room s m args below meth c H locs 0 0 Q (F0 m 0 ls []) := by
    intro H locs hP hD hS ls hl
    refine lv_aload_n hx hb dX5_chase_0 rfl (lv_at hl 0 rfl) ?_
    refine va_get (D := G.1) (ci := 5) (v := .ref a0.2.2.1.1) (C := RX5) (T := TX5) (N := 9) hx hb hts hinX5 hown hK hP 0 rfl rfl 1 (by decide) lk0 (fun _ h9 => h9) rfl dX5_chase_1 ?_
    refine va_getN (D := G.1) (ci := 4) (v := .ref a0.2.2.1.2.1.1) (C := RX4) (T := TX4) (N := 3) hx hb hts hinX4 hown hK hP 3 rfl rfl 0 (by decide) lk1 (fun _ h9 => h9) rfl dX5_chase_4 ?_
    refine lv_iload_n hx hb dX5_chase_7 rfl (lv_at hl 1 rfl) ?_
    obtain ⟨r1, hr1, hf⟩ := ob_bind hf
    have hPc : va_P G.1 vwCl (ce_X1 G.2.1 a0.2.2.1.2.1 S0.2.1.1) H := hP.sub [4, 5, 6, 7, 8, 9] rfl
    have hDc : va_D A (ce_X1 G.2.1 a0.2.2.1.2.1 S0.2.1.1) := hD.sub [4, 5, 6, 7, 8, 9] (by decide) rfl
    have hFc := va_free (wc := ce_X1 G.2.1 a0.2.2.1.2.1 S0.2.1.1) hD hS hA [4, 5, 6, 7, 8, 9] rfl
    refine zc_ro (va_runVN (As := [.int p1]) (rest := []) ⟨hx, hb, hml, hown, hts⟩ (c_X1_knows l G a0.2.2.1.2.1 H.size S0.2.1.1 p1 _ hr1) (⟨va_cnB 1 hts gX5_chase_X1_knows_n66 rfl rfl rfl (hE.1 _ nw_36) lk2 (by decide +kernel) ⟨Nat.le_of_ble_eq_true rfl, Nat.le_of_ble_eq_true rfl⟩, lk3, lk4⟩) ⟨PcM.blind, va_recv hK hPc (ci := 1) (q0 := 0) rfl rfl, PcM.ok hPc hDc hK hE hS hFc⟩ rfl rfl hl.1 rfl (lv_room (Nat.le_of_ble_eq_true rfl)) dX5_chase_8 ⟨Nat.le_refl _, Nat.le_refl _⟩) hP hD hS hA [4, 5, 6, 7, 8, 9] rfl (fun H locs hP hS => ?_)
    refine lv_if_ne (tgt := 20) hx hb dX5_chase_11 (by decide) (fun c2 => ?_) (fun c2 => ?_)
    · replace hf := ob_neg c2 hf
      refine lv_aload_n hx hb dX5_chase_20 rfl (lv_at hl 0 rfl) ?_
      refine va_get (D := G.1) (ci := 5) (v := .ref a0.2.2.1.1) (C := RX5) (T := TX5) (N := 9) hx hb hts hinX5 hown hK hP 0 rfl rfl 1 (by decide) lk0 (fun _ h9 => h9) rfl dX5_chase_21 ?_
      refine lv_iload_n hx hb dX5_chase_24 rfl (lv_at hl 1 rfl) ?_
      refine lv_iconst (v := (-1)) hx hb dX5_chase_25 (by decide) ?_
      obtain ⟨r3, hr3, hf⟩ := ob_bind hf
      have hPc : va_P G.1 vwCl (ce_X4 G.2.1 a0.2.2.1 S0.2.1) H := hP.sub [3, 4, 5, 6, 7, 8, 9, 10, 11, 12, 13, 14] rfl
      have hDc : va_D A (ce_X4 G.2.1 a0.2.2.1 S0.2.1) := hD.sub [3, 4, 5, 6, 7, 8, 9, 10, 11, 12, 13, 14] (by decide) rfl
      have hFc := va_free (wc := ce_X4 G.2.1 a0.2.2.1 S0.2.1) hD hS hA [3, 4, 5, 6, 7, 8, 9, 10, 11, 12, 13, 14] rfl
      refine zc_ro (va_runVN (As := [.int p1, .int (-1)]) (rest := []) ⟨hx, hb, hml, hown, hts⟩ (c_X4_daysUntil l G a0.2.2.1 H.size S0.2.1 p1 (-1) _ hr3) (⟨va_cnB 2 hts gX5_chase_X4_daysUntil_n126 rfl rfl rfl (hE.1 _ nw_51) lk5 (by decide +kernel) ⟨Nat.le_of_ble_eq_true rfl, Nat.le_of_ble_eq_true rfl⟩, lk6, lk7⟩) ⟨PcM.blind, va_recv hK hPc (ci := 4) (q0 := 0) rfl rfl, PcM.ok hPc hDc hK hE hS hFc⟩ rfl rfl hl.1 rfl (lv_room (Nat.le_of_ble_eq_true rfl)) dX5_chase_26 ⟨Nat.le_refl _, Nat.le_refl _⟩) hP hD hS hA [3, 4, 5, 6, 7, 8, 9, 10, 11, 12, 13, 14] rfl (fun H locs hP hS => ?_)
      exact fin _ _ _ _ _ _ hf hP hD hS dX5_chase_29
    · replace hf := ob_pos c2 hf
      refine lv_aload_n hx hb dX5_chase_14 rfl (lv_at hl 0 rfl) ?_
      refine lv_iconst (v := (-1)) hx hb dX5_chase_15 (by decide) ?_
      obtain ⟨r4, hr4, hf⟩ := ob_bind hf
      have hFc := va_free (wc := ce_X5 G.2.1 a0 S0) hD hS hA [0, 1, 2, 3, 4, 5, 6, 7, 8, 9, 10, 11, 12, 13, 14, 15, 16, 17, 18, 19, 20, 21, 22, 23, 24, 25, 26, 27, 28, 29, 30, 31, 32, 33, 34, 35, 36, 37, 38] rfl
      refine zc_wr (cf := (fun u => ce_X5 G.2.1 a0 u)) (ws' := ce_X5 G.2.1 a0 r4.2) (va_runV (As := [.int (-1)]) (rest := []) ⟨hx, hb, hml, hown, hts⟩ (c_X5_refuse l G a0 H.size S0 (-1) _ hr4) (cwV 1 hts gX5_chase_X5_refuse rfl rfl rfl (by decide +kernel) ⟨Nat.le_of_ble_eq_true rfl, Nat.le_of_ble_eq_true rfl⟩) ⟨PcM.blind, va_recv hK hP (ci := 5) (q0 := 0) rfl rfl, PcM.ok hP hD hK hE hS hFc⟩ rfl rfl hl.1 rfl (lv_room (Nat.le_of_ble_eq_true rfl)) dX5_chase_16 ⟨Nat.le_refl _, Nat.le_refl _⟩) hP hD hS hA [0, 1, 2, 3, 4, 5, 6, 7, 8, 9, 10, 11, 12, 13, 14, 15, 16, 17, 18, 19, 20, 21, 22, 23, 24, 25, 26, 27, 28, 29, 30, 31, 32, 33, 34, 35, 36, 37, 38] [] [0, 1, 2, 3, 4, 5, 6, 7, 8, 9, 10, 11, 12, 13, 14, 15, 16, 17, 18, 19, 20, 21, 22, 23, 24, 25, 26, 27, 28, 29, 30, 31, 32, 33, 34, 35, 36, 37, 38] rfl rfl (by decide) (by decide) (by decide) rfl (fun H locs hP hD hS => ?_)
      exact fin _ _ _ _ _ _ hf hP hD hS dX5_chase_19
  exact go _ _ hP hD hS _ hl
abbrev rm_X5_ever : Room := { frames := 6, cells := 0, slots := 0, locals := 139 }
set_option maxHeartbeats 4000000 in
set_option maxRecDepth 100000 in
theorem c_X5_ever (l : Launch) (G : zG) (a0 : AT_X5) (sz : Nat) (S0 : ST_X5) (out : Int32) (hf : f_X5_ever S0 = some out) : Met l yX5_ever wsX5_ever rm_X5_ever (PcM G (ce_X5 G.2.1 a0 S0) [.ref a0.1] sz) (QRo G (ce_X5 G.2.1 a0 S0) out (va_A (ce_X5 G.2.1 a0 S0) sz)) 0 0 (va_A (ce_X5 G.2.1 a0 S0) sz) := by
  rw [f_X5_ever] at hf
  refine Met.ofW (cc := cX5_ever) (maxL := 1) (ret := (some .int)) (by decide) rfl ?_
  intro p e s m args below meth c s₁ B hml hv
  obtain ⟨hargs, hsz, hP, hK, hD0, hE⟩ := hv
  have hx := B.exec
  have hb := B.bytes
  have hr := B.returns
  have hts := atoms_spec (ws := wsX5_ever) B.pre
  have hown : s.vm.findClass RX5 = some m.cls := findClass_of_methodNamed B.named
  have hlocks := B.notSynchronized
  subst hsz
  have hD := hD0.self (sz := s.heap.size)
  generalize hAe : va_A (ce_X5 G.2.1 a0 S0) s.heap.size = A at hD hE ⊢
  have hA : ∀ q : Nat, s.heap.size ≤ q → A q := fun q h => by rw [← hAe]; exact Or.inr h
  have hS : va_S A s.heap s.heap [] := va_S.rf
  have hl := lv_entry ([.ref a0.1]) (n := 1) (Nat.le_of_ble_eq_true rfl)
  have hent : entryFrame m args 1 = F0 m 0 ((lg_sl ([.ref a0.1]) ++ List.replicate (1 - (lg_sl ([.ref a0.1])).length) Slot.unset).toArray) [] := by rw [hargs, lg_entry_eq]
  rw [hent]
  clear hent
  generalize (lg_sl ([.ref a0.1]) ++ List.replicate (1 - (lg_sl ([.ref a0.1])).length) Slot.unset).toArray = ls at hl ⊢
  have hl : lv_has ls 1 [(0, .ref a0.1)] := hl
  have lk0 := hts (Cond.fieldLink RX5 19 "EnginesOnList" "now" "LEnginesOnList$World;") (List.mem_of_getElem? (i := 1) rfl)
  have lk1 := hts (Cond.initialized RX4) (List.mem_of_getElem? (i := 3) rfl)
  have lk2 := hts (Cond.instanceMethod yX4_everWorth) (List.mem_of_getElem? (i := 2) rfl)
  have lk3 := hts (Cond.selects RX4 yX4_everWorth yX4_everWorth) (List.mem_of_getElem? (i := 4) rfl)
  have hinX5 : ∀ w ∈ wsX50, w ∈ wsX5_ever := by decide +kernel
  have fin : ∀ (pc : Nat) (v : Int32) (H : Heap) (locs : List Loc) (ls : Array Slot), some v = some out → va_P G.1 vwCl (ce_X5 G.2.1 a0 S0) H → va_D A (ce_X5 G.2.1 a0 S0) → va_S A s.heap H locs → decode cX5_ever pc = .ok (.ireturn, 1) → W p l e (headSpec wsX5_ever rm_X5_ever).room s m args below meth c H locs 0 0 (MQ below (QRo G (ce_X5 G.2.1 a0 S0) out A) args s 0 0 A) (F0 m pc ls [.int v]) := fun pc v H locs ls ho hP hD hS hd => W.iret (v := v) hx hb hr (fun t ht hW => ⟨⟨v, (), rfl, Option.some.inj ho, by first | (rw [ht]; exact hP) | (dsimp only; rw [ht]; exact hP)⟩, hS.F ht⟩) hS.2.2 hd
  generalize MQ below (QRo G (ce_X5 G.2.1 a0 S0) out A) args s 0 0 A = Q at fin ⊢
  have go : ∀ (H : Heap) (locs : List Loc), va_P G.1 vwCl (ce_X5 G.2.1 a0 S0) H → va_D A (ce_X5 G.2.1 a0 S0) → va_S A s.heap H locs → ∀ (ls : Array Slot), lv_has ls 1 [(0, .ref a0.1)] → W p l e (headSpec wsX5_ever rm_X5_ever).room s m args below meth c H locs 0 0 Q (F0 m 0 ls []) := by
    intro H locs hP hD hS ls hl
    refine lv_aload_n hx hb dX5_ever_0 rfl (lv_at hl 0 rfl) ?_
    refine va_get (D := G.1) (ci := 5) (v := .ref a0.2.2.1.1) (C := RX5) (T := TX5) (N := 9) hx hb hts hinX5 hown hK hP 0 rfl rfl 1 (by decide) lk0 (fun _ h9 => h9) rfl dX5_ever_1 ?_
    obtain ⟨r1, hr1, hf⟩ := ob_bind hf
    have hPc : va_P G.1 vwCl (ce_X4 G.2.1 a0.2.2.1 S0.2.1) H := hP.sub [3, 4, 5, 6, 7, 8, 9, 10, 11, 12, 13, 14] rfl
    have hDc : va_D A (ce_X4 G.2.1 a0.2.2.1 S0.2.1) := hD.sub [3, 4, 5, 6, 7, 8, 9, 10, 11, 12, 13, 14] (by decide) rfl
    have hFc := va_free (wc := ce_X4 G.2.1 a0.2.2.1 S0.2.1) hD hS hA [3, 4, 5, 6, 7, 8, 9, 10, 11, 12, 13, 14] rfl
    refine zc_ro (va_runVN (As := []) (rest := []) ⟨hx, hb, hml, hown, hts⟩ (c_X4_everWorth l G a0.2.2.1 H.size S0.2.1 _ hr1) (⟨va_cnB 0 hts gX5_ever_X4_everWorth_n129 rfl rfl rfl (hE.1 _ nw_53) lk1 (by decide +kernel) ⟨Nat.le_of_ble_eq_true rfl, Nat.le_of_ble_eq_true rfl⟩, lk2, lk3⟩) ⟨PcM.blind, va_recv hK hPc (ci := 4) (q0 := 0) rfl rfl, PcM.ok hPc hDc hK hE hS hFc⟩ rfl rfl hl.1 rfl (lv_room (Nat.le_of_ble_eq_true rfl)) dX5_ever_4 ⟨Nat.le_refl _, Nat.le_refl _⟩) hP hD hS hA [3, 4, 5, 6, 7, 8, 9, 10, 11, 12, 13, 14] rfl (fun H locs hP hS => ?_)
    exact fin _ _ _ _ _ hf hP hD hS dX5_ever_7
  exact go _ _ hP hD hS _ hl
abbrev rm_X5_all : Room := { frames := 20, cells := 0, slots := 0, locals := 772 }
set_option maxHeartbeats 4000000 in
set_option maxRecDepth 100000 in
theorem c_X5_all (l : Launch) (G : zG) (a0 : AT_X5) (sz : Nat) (S0 : ST_X5) (out : Int32 × ST_X5) (hf : f_X5_all S0 = some out) : Met l yX5_all wsX5_all rm_X5_all (PcM G (ce_X5 G.2.1 a0 S0) [.ref a0.1] sz) (QWr G (fun u => ce_X5 G.2.1 a0 u) out (va_A (ce_X5 G.2.1 a0 S0) sz)) 0 0 (va_A (ce_X5 G.2.1 a0 S0) sz) := by
  rw [f_X5_all] at hf
  refine Met.ofW (cc := cX5_all) (maxL := 3) (ret := (some .int)) (by decide) rfl ?_
  intro p e s m args below meth c s₁ B hml hv
  obtain ⟨hargs, hsz, hP, hK, hD0, hE⟩ := hv
  have hx := B.exec
  have hb := B.bytes
  have hr := B.returns
  have hts := atoms_spec (ws := wsX5_all) B.pre
  have hown : s.vm.findClass RX5 = some m.cls := findClass_of_methodNamed B.named
  have hlocks := B.notSynchronized
  subst hsz
  have hD := hD0.self (sz := s.heap.size)
  generalize hAe : va_A (ce_X5 G.2.1 a0 S0) s.heap.size = A at hD hE ⊢
  have hA : ∀ q : Nat, s.heap.size ≤ q → A q := fun q h => by rw [← hAe]; exact Or.inr h
  have hS : va_S A s.heap s.heap [] := va_S.rf
  have hl := lv_entry ([.ref a0.1]) (n := 3) (Nat.le_of_ble_eq_true rfl)
  have hent : entryFrame m args 3 = F0 m 0 ((lg_sl ([.ref a0.1]) ++ List.replicate (3 - (lg_sl ([.ref a0.1])).length) Slot.unset).toArray) [] := by rw [hargs, lg_entry_eq]
  rw [hent]
  clear hent
  generalize (lg_sl ([.ref a0.1]) ++ List.replicate (3 - (lg_sl ([.ref a0.1])).length) Slot.unset).toArray = ls at hl ⊢
  have hl : lv_has ls 3 [(0, .ref a0.1)] := hl
  have lk0 := hts (Cond.fieldLink RX5 36 "EnginesOnList" "planner" "LEnginesOnList$Planner;") (List.mem_of_getElem? (i := 2) rfl)
  have lk1 := hts (Cond.fieldLink RX5 19 "EnginesOnList" "now" "LEnginesOnList$World;") (List.mem_of_getElem? (i := 1) rfl)
  have lk2 := hts (Cond.initialized RX3) (List.mem_of_getElem? (i := 47) rfl)
  have lk3 := hts (Cond.instanceMethod yX3_search) (List.mem_of_getElem? (i := 46) rfl)
  have lk4 := hts (Cond.selects RX3 yX3_search yX3_search) (List.mem_of_getElem? (i := 48) rfl)
  have lk5 := va_Nw.use (A := args) rfl (hE.1 _ nw_19)
  have lk6 := va_Nw.use (A := args) rfl (hE.1 _ nw_14)
  have lk7 := hts (Cond.initialized RX1) (List.mem_of_getElem? (i := 4) rfl)
  have lk8 := hts (Cond.instanceMethod yX1_worthOfAllNew) (List.mem_of_getElem? (i := 3) rfl)
  have lk9 := hts (Cond.selects RX1 yX1_worthOfAllNew yX1_worthOfAllNew) (List.mem_of_getElem? (i := 5) rfl)
  have hinX5 : ∀ w ∈ wsX50, w ∈ wsX5_all := by decide +kernel
  have hinX3 : ∀ w ∈ wsX30, w ∈ wsX5_all := by decide +kernel
  have hinX4 : ∀ w ∈ wsX40, w ∈ wsX5_all := by decide +kernel
  have fin : ∀ (pc : Nat) (v : Int32) (u : ST_X5) (H : Heap) (locs : List Loc) (ls : Array Slot), some (v, u) = some out → va_P G.1 vwCl (ce_X5 G.2.1 a0 u) H → va_D A (ce_X5 G.2.1 a0 u) → va_S A s.heap H locs → decode cX5_all pc = .ok (.ireturn, 1) → W p l e (headSpec wsX5_all rm_X5_all).room s m args below meth c H locs 0 0 (MQ below (QWr G (fun u => ce_X5 G.2.1 a0 u) out A) args s 0 0 A) (F0 m pc ls [.int v]) := fun pc v u H locs ls ho hP hD hS hd => W.iret (v := v) hx hb hr (fun t ht hW => ⟨⟨v, u, rfl, ob_pair ho, by first | (rw [ht]; exact hP) | (dsimp only; rw [ht]; exact hP), hD⟩, hS.F ht⟩) hS.2.2 hd
  generalize MQ below (QWr G (fun u => ce_X5 G.2.1 a0 u) out A) args s 0 0 A = Q at fin ⊢
  have blk19 : ∀ (fu19 : Nat), ∀ (S0 : ST_X5) (v1 : Int32) (v2 : Int32), f_X5_all_b19 fu19 S0 v1 v2 = some out → ∀ (H : Heap) (locs : List Loc), va_P G.1 vwCl (ce_X5 G.2.1 a0 S0) H → va_D A (ce_X5 G.2.1 a0 S0) → va_S A s.heap H locs → ∀ (ls : Array Slot), lv_has ls 3 [(0, .ref a0.1), (1, .int v1), (2, .int v2)] → W p l e (headSpec wsX5_all rm_X5_all).room s m args below meth c H locs 0 0 Q (F0 m 19 ls []) := by
    intro fu19
    induction fu19 with
    | zero => intro S0 v1 v2 hf; exact ob_none hf
    | succ fu19 ih19 =>
      intro S0 v1 v2 hf H locs hP hD hS ls hl
      rw [f_X5_all_b19] at hf
      refine lv_iload_n hx hb dX5_all_19 rfl (lv_at hl 2 rfl) ?_
      refine lv_iconst (v := 5) hx hb dX5_all_20 (by decide) ?_
      refine lv_icmp_gt (tgt := 57) hx hb dX5_all_21 (by decide) (fun c1 => ?_) (fun c1 => ?_)
      · replace hf := ob_pos c1 hf
        refine lv_bipush (v := (-9)) hx hb dX5_all_57 (by decide) ?_
        exact fin _ _ _ _ _ _ hf hP hD hS dX5_all_59
      · replace hf := ob_neg c1 hf
        refine lv_aload_n hx hb dX5_all_24 rfl (lv_at hl 0 rfl) ?_
        refine va_get (D := G.1) (ci := 5) (v := .ref a0.2.2.2.2.2.1.1) (C := RX5) (T := TX5) (N := 9) hx hb hts hinX5 hown hK hP 0 rfl rfl 5 (by decide) lk0 (fun _ h9 => h9) rfl dX5_all_25 ?_
        refine lv_aload_n hx hb dX5_all_28 rfl (lv_at hl 0 rfl) ?_
        refine va_get (D := G.1) (ci := 5) (v := .ref a0.2.2.1.1) (C := RX5) (T := TX5) (N := 9) hx hb hts hinX5 hown hK hP 0 rfl rfl 1 (by decide) lk1 (fun _ h9 => h9) rfl dX5_all_29 ?_
        refine lv_iload_n hx hb dX5_all_32 rfl (lv_at hl 2 rfl) ?_
        refine lv_bipush (v := 20) hx hb dX5_all_33 (by decide) ?_
        obtain ⟨r2, hr2, hf⟩ := ob_bind hf
        have hPc : va_P G.1 vwCl (ce_X3 G.2.1 a0.2.2.2.2.2.1 S0.2.2.2.2.2.1 ++ ce_X4 G.2.1 a0.2.2.1 S0.2.1) H := hP.sub [33, 34, 35, 36, 3, 4, 5, 6, 7, 8, 9, 10, 11, 12, 13, 14] rfl
        have hDc : va_D A (ce_X3 G.2.1 a0.2.2.2.2.2.1 S0.2.2.2.2.2.1 ++ ce_X4 G.2.1 a0.2.2.1 S0.2.1) := hD.sub [33, 34, 35, 36, 3, 4, 5, 6, 7, 8, 9, 10, 11, 12, 13, 14] (by decide) rfl
        have hFc := va_free (wc := ce_X3 G.2.1 a0.2.2.2.2.2.1 S0.2.2.2.2.2.1 ++ ce_X4 G.2.1 a0.2.2.1 S0.2.1) hD hS hA [33, 34, 35, 36, 3, 4, 5, 6, 7, 8, 9, 10, 11, 12, 13, 14] rfl
        refine zc_wv (cf := (fun u => ce_X3 G.2.1 a0.2.2.2.2.2.1 u ++ ce_X4 G.2.1 a0.2.2.1 S0.2.1)) (ws' := ce_X5 G.2.1 a0 (S0.1, S0.2.1, S0.2.2.1, S0.2.2.2.1, S0.2.2.2.2.1, r2, S0.2.2.2.2.2.2.1, S0.2.2.2.2.2.2.2.1, S0.2.2.2.2.2.2.2.2)) (va_runVN (As := [.ref a0.2.2.1.1, .int v2, .int 20]) (rest := []) ⟨hx, hb, hml, hown, hts⟩ (c_X3_search l G a0.2.2.2.2.2.1 a0.2.2.1 H.size S0.2.2.2.2.2.1 S0.2.1 v2 20 _ hr2) (⟨va_cnB 3 hts gX5_all_X3_search_n116 rfl rfl rfl (hE.1 _ nw_48) lk2 (by decide +kernel) ⟨Nat.le_of_ble_eq_true rfl, Nat.le_of_ble_eq_true rfl⟩, lk3, lk4⟩) ⟨PcM.blind, va_recv hK hPc (ci := 3) (q0 := 0) rfl rfl, PcM.ok hPc hDc hK hE hS hFc⟩ rfl rfl hl.1 rfl (lv_room (Nat.le_of_ble_eq_true rfl)) dX5_all_35 ⟨Nat.le_refl _, Nat.le_refl _⟩) hP hD hS hA [33, 34, 35, 36, 3, 4, 5, 6, 7, 8, 9, 10, 11, 12, 13, 14] [0, 1, 2, 15, 16, 17, 18, 19, 20, 21, 22, 23, 24, 25, 26, 27, 28, 29, 30, 31, 32, 37, 38] [0, 1, 2, 27, 28, 29, 30, 31, 32, 33, 34, 35, 36, 37, 38, 3, 4, 5, 6, 7, 8, 9, 10, 11, 12, 13, 14, 15, 16, 17, 18, 19, 20, 23, 24, 25, 26, 21, 22] rfl rfl (by decide) (by decide) (by decide) rfl (fun H locs hP hD hS => ?_)
        refine lv_aload_n hx hb dX5_all_38 rfl (lv_at hl 0 rfl) ?_
        refine va_get (D := G.1) (ci := 5) (v := .ref a0.2.2.2.2.2.1.1) (C := RX5) (T := TX5) (N := 9) hx hb hts hinX5 hown hK hP 0 rfl rfl 5 (by decide) lk0 (fun _ h9 => h9) rfl dX5_all_39 ?_
        refine va_getN (D := G.1) (ci := 3) (v := .int r2.2.2.2.1) (C := RX3) (T := TX3) (N := 5) hx hb hts hinX3 hown hK hP 33 rfl rfl 3 (by decide) lk5 (fun _ h9 => h9) rfl dX5_all_42 ?_
        refine lv_iload_n hx hb dX5_all_45 rfl (lv_at hl 1 rfl) ?_
        refine lv_icmp_ne (tgt := 51) hx hb dX5_all_46 (by decide) (fun c3 => ?_) (fun c3 => ?_)
        · replace hf := ob_neg c3 hf
          refine lv_iinc (v := v2 + 1) (lv' := [(2, .int (v2 + 1)), (0, .ref a0.1), (1, .int v1)]) hx hb dX5_all_51 hl (k := 2) rfl rfl (by decide) rfl (fun ls hl => ?_)
          refine lv_goto (tgt := 19) hx hb dX5_all_54 (by decide) ?_
          exact ih19 _ _ _ hf _ _ hP hD hS _ (lv_sub hl [1, 2, 0] rfl)
        · replace hf := ob_pos c3 hf
          refine lv_iload_n hx hb dX5_all_49 rfl (lv_at hl 2 rfl) ?_
          exact fin _ _ _ _ _ _ hf hP hD hS dX5_all_50
  have go : ∀ (H : Heap) (locs : List Loc), va_P G.1 vwCl (ce_X5 G.2.1 a0 S0) H → va_D A (ce_X5 G.2.1 a0 S0) → va_S A s.heap H locs → ∀ (ls : Array Slot), lv_has ls 3 [(0, .ref a0.1)] → W p l e (headSpec wsX5_all rm_X5_all).room s m args below meth c H locs 0 0 Q (F0 m 0 ls []) := by
    intro H locs hP hD hS ls hl
    refine lv_aload_n hx hb dX5_all_0 rfl (lv_at hl 0 rfl) ?_
    refine va_get (D := G.1) (ci := 5) (v := .ref a0.2.2.1.1) (C := RX5) (T := TX5) (N := 9) hx hb hts hinX5 hown hK hP 0 rfl rfl 1 (by decide) lk1 (fun _ h9 => h9) rfl dX5_all_1 ?_
    refine va_getN (D := G.1) (ci := 4) (v := .ref a0.2.2.1.2.1.1) (C := RX4) (T := TX4) (N := 3) hx hb hts hinX4 hown hK hP 3 rfl rfl 0 (by decide) lk6 (fun _ h9 => h9) rfl dX5_all_4 ?_
    obtain ⟨r4, hr4, hf⟩ := ob_bind hf
    have hPc : va_P G.1 vwCl (ce_X1 G.2.1 a0.2.2.1.2.1 S0.2.1.1) H := hP.sub [4, 5, 6, 7, 8, 9] rfl
    have hDc : va_D A (ce_X1 G.2.1 a0.2.2.1.2.1 S0.2.1.1) := hD.sub [4, 5, 6, 7, 8, 9] (by decide) rfl
    have hFc := va_free (wc := ce_X1 G.2.1 a0.2.2.1.2.1 S0.2.1.1) hD hS hA [4, 5, 6, 7, 8, 9] rfl
    refine zc_ro (va_runVN (As := []) (rest := []) ⟨hx, hb, hml, hown, hts⟩ (c_X1_worthOfAllNew l G a0.2.2.1.2.1 H.size S0.2.1.1 _ hr4) (⟨va_cnB 0 hts gX5_all_X1_worthOfAllNew_n132 rfl rfl rfl (hE.1 _ nw_55) lk7 (by decide +kernel) ⟨Nat.le_of_ble_eq_true rfl, Nat.le_of_ble_eq_true rfl⟩, lk8, lk9⟩) ⟨PcM.blind, va_recv hK hPc (ci := 1) (q0 := 0) rfl rfl, PcM.ok hPc hDc hK hE hS hFc⟩ rfl rfl hl.1 rfl (lv_room (Nat.le_of_ble_eq_true rfl)) dX5_all_7 ⟨Nat.le_refl _, Nat.le_refl _⟩) hP hD hS hA [4, 5, 6, 7, 8, 9] rfl (fun H locs hP hS => ?_)
    refine lv_istore_n (lv' := [(1, .int r4), (0, .ref a0.1)]) hx hb dX5_all_10 rfl hl (by decide) rfl (fun ls hl => ?_)
    refine lv_iload_n hx hb dX5_all_11 rfl (lv_at hl 0 rfl) ?_
    refine lv_if_ne (tgt := 17) hx hb dX5_all_12 (by decide) (fun c5 => ?_) (fun c5 => ?_)
    · replace hf := ob_neg c5 hf
      refine lv_iconst (v := 1) hx hb dX5_all_17 (by decide) ?_
      refine lv_istore_n (lv' := [(2, .int 1), (1, .int r4), (0, .ref a0.1)]) hx hb dX5_all_18 rfl hl (by decide) rfl (fun ls hl => ?_)
      exact blk19 4096 _ _ _ hf _ _ hP hD hS _ (lv_sub hl [2, 1, 0] rfl)
    · replace hf := ob_pos c5 hf
      refine lv_iconst (v := 0) hx hb dX5_all_15 (by decide) ?_
      exact fin _ _ _ _ _ _ hf hP hD hS dX5_all_16
  exact go _ _ hP hD hS _ hl
abbrev rm_X5_reading : Room := { frames := 2, cells := 0, slots := 0, locals := 48 }
set_option maxHeartbeats 4000000 in
set_option maxRecDepth 100000 in
theorem c_X5_reading (l : Launch) (G : zG) (a0 : AT_X5) (sz : Nat) (S0 : ST_X5) (p1 : Int32) (p2 : Int32) (p3 : Int32) (p4 : Int32) (out : Int32 × ST_X5) (hf : f_X5_reading S0 p1 p2 p3 p4 = some out) : Met l yX5_reading wsX5_reading rm_X5_reading (PcM G (ce_X5 G.2.1 a0 S0) [.ref a0.1, .int p1, .int p2, .int p3, .int p4] sz) (QWr G (fun u => ce_X5 G.2.1 a0 u) out (va_A (ce_X5 G.2.1 a0 S0) sz)) 0 0 (va_A (ce_X5 G.2.1 a0 S0) sz) := by
  rw [f_X5_reading] at hf
  refine Met.ofW (cc := cX5_reading) (maxL := 5) (ret := (some .int)) (by decide) rfl ?_
  intro p e s m args below meth c s₁ B hml hv
  obtain ⟨hargs, hsz, hP, hK, hD0, hE⟩ := hv
  have hx := B.exec
  have hb := B.bytes
  have hr := B.returns
  have hts := atoms_spec (ws := wsX5_reading) B.pre
  have hown : s.vm.findClass RX5 = some m.cls := findClass_of_methodNamed B.named
  have hlocks := B.notSynchronized
  subst hsz
  have hD := hD0.self (sz := s.heap.size)
  generalize hAe : va_A (ce_X5 G.2.1 a0 S0) s.heap.size = A at hD hE ⊢
  have hA : ∀ q : Nat, s.heap.size ≤ q → A q := fun q h => by rw [← hAe]; exact Or.inr h
  have hS : va_S A s.heap s.heap [] := va_S.rf
  have hl := lv_entry ([.ref a0.1, .int p1, .int p2, .int p3, .int p4]) (n := 5) (Nat.le_of_ble_eq_true rfl)
  have hent : entryFrame m args 5 = F0 m 0 ((lg_sl ([.ref a0.1, .int p1, .int p2, .int p3, .int p4]) ++ List.replicate (5 - (lg_sl ([.ref a0.1, .int p1, .int p2, .int p3, .int p4])).length) Slot.unset).toArray) [] := by rw [hargs, lg_entry_eq]
  rw [hent]
  clear hent
  generalize (lg_sl ([.ref a0.1, .int p1, .int p2, .int p3, .int p4]) ++ List.replicate (5 - (lg_sl ([.ref a0.1, .int p1, .int p2, .int p3, .int p4])).length) Slot.unset).toArray = ls at hl ⊢
  have hl : lv_has ls 5 [(0, .ref a0.1), (1, .int p1), (2, .int p2), (3, .int p3), (4, .int p4)] := hl
  have lk0 := hts (Cond.fieldLink RX5 19 "EnginesOnList" "now" "LEnginesOnList$World;") (List.mem_of_getElem? (i := 1) rfl)
  have lk1 := va_Nw.use (A := args) rfl (hE.1 _ nw_15)
  have lk2 := hts (Cond.initialized RX0) (List.mem_of_getElem? (i := 12) rfl)
  have lk3 := hts (Cond.instanceMethod yX0_add) (List.mem_of_getElem? (i := 11) rfl)
  have lk4 := hts (Cond.selects RX0 yX0_add yX0_add) (List.mem_of_getElem? (i := 13) rfl)
  have lk5 := va_Nw.use (A := args) rfl (hE.1 _ nw_12)
  have hinX5 : ∀ w ∈ wsX50, w ∈ wsX5_reading := by decide +kernel
  have hinX4 : ∀ w ∈ wsX40, w ∈ wsX5_reading := by decide +kernel
  have hinX0 : ∀ w ∈ wsX00, w ∈ wsX5_reading := by decide +kernel
  have fin : ∀ (pc : Nat) (v : Int32) (u : ST_X5) (H : Heap) (locs : List Loc) (ls : Array Slot), some (v, u) = some out → va_P G.1 vwCl (ce_X5 G.2.1 a0 u) H → va_D A (ce_X5 G.2.1 a0 u) → va_S A s.heap H locs → decode cX5_reading pc = .ok (.ireturn, 1) → W p l e (headSpec wsX5_reading rm_X5_reading).room s m args below meth c H locs 0 0 (MQ below (QWr G (fun u => ce_X5 G.2.1 a0 u) out A) args s 0 0 A) (F0 m pc ls [.int v]) := fun pc v u H locs ls ho hP hD hS hd => W.iret (v := v) hx hb hr (fun t ht hW => ⟨⟨v, u, rfl, ob_pair ho, by first | (rw [ht]; exact hP) | (dsimp only; rw [ht]; exact hP), hD⟩, hS.F ht⟩) hS.2.2 hd
  generalize MQ below (QWr G (fun u => ce_X5 G.2.1 a0 u) out A) args s 0 0 A = Q at fin ⊢
  have blk18 : ∀ (S0 : ST_X5), f_X5_reading_b18 S0 = some out → ∀ (H : Heap) (locs : List Loc), va_P G.1 vwCl (ce_X5 G.2.1 a0 S0) H → va_D A (ce_X5 G.2.1 a0 S0) → va_S A s.heap H locs → ∀ (ls : Array Slot), lv_has ls 5 [(0, .ref a0.1)] → W p l e (headSpec wsX5_reading rm_X5_reading).room s m args below meth c H locs 0 0 Q (F0 m 18 ls []) := by
    intro S0 hf H locs hP hD hS ls hl
    rw [f_X5_reading_b18] at hf
    refine lv_aload_n hx hb dX5_reading_18 rfl (lv_at hl 0 rfl) ?_
    refine lv_iconst (v := (-1)) hx hb dX5_reading_19 (by decide) ?_
    obtain ⟨r1, hr1, hf⟩ := ob_bind hf
    have hFc := va_free (wc := ce_X5 G.2.1 a0 S0) hD hS hA [0, 1, 2, 3, 4, 5, 6, 7, 8, 9, 10, 11, 12, 13, 14, 15, 16, 17, 18, 19, 20, 21, 22, 23, 24, 25, 26, 27, 28, 29, 30, 31, 32, 33, 34, 35, 36, 37, 38] rfl
    refine zc_wr (cf := (fun u => ce_X5 G.2.1 a0 u)) (ws' := ce_X5 G.2.1 a0 r1.2) (va_runV (As := [.int (-1)]) (rest := []) ⟨hx, hb, hml, hown, hts⟩ (c_X5_refuse l G a0 H.size S0 (-1) _ hr1) (cwV 1 hts gX5_reading_X5_refuse rfl rfl rfl (by decide +kernel) ⟨Nat.le_of_ble_eq_true rfl, Nat.le_of_ble_eq_true rfl⟩) ⟨PcM.blind, va_recv hK hP (ci := 5) (q0 := 0) rfl rfl, PcM.ok hP hD hK hE hS hFc⟩ rfl rfl hl.1 rfl (lv_room (Nat.le_of_ble_eq_true rfl)) dX5_reading_20 ⟨Nat.le_refl _, Nat.le_refl _⟩) hP hD hS hA [0, 1, 2, 3, 4, 5, 6, 7, 8, 9, 10, 11, 12, 13, 14, 15, 16, 17, 18, 19, 20, 21, 22, 23, 24, 25, 26, 27, 28, 29, 30, 31, 32, 33, 34, 35, 36, 37, 38] [] [0, 1, 2, 3, 4, 5, 6, 7, 8, 9, 10, 11, 12, 13, 14, 15, 16, 17, 18, 19, 20, 21, 22, 23, 24, 25, 26, 27, 28, 29, 30, 31, 32, 33, 34, 35, 36, 37, 38] rfl rfl (by decide) (by decide) (by decide) rfl (fun H locs hP hD hS => ?_)
    exact fin _ _ _ _ _ _ hf hP hD hS dX5_reading_23
  have blk34 : ∀ (S0 : ST_X5), f_X5_reading_b34 S0 = some out → ∀ (H : Heap) (locs : List Loc), va_P G.1 vwCl (ce_X5 G.2.1 a0 S0) H → va_D A (ce_X5 G.2.1 a0 S0) → va_S A s.heap H locs → ∀ (ls : Array Slot), lv_has ls 5 [(0, .ref a0.1)] → W p l e (headSpec wsX5_reading rm_X5_reading).room s m args below meth c H locs 0 0 Q (F0 m 34 ls []) := by
    intro S0 hf H locs hP hD hS ls hl
    rw [f_X5_reading_b34] at hf
    refine lv_aload_n hx hb dX5_reading_34 rfl (lv_at hl 0 rfl) ?_
    refine lv_bipush (v := (-4)) hx hb dX5_reading_35 (by decide) ?_
    obtain ⟨r2, hr2, hf⟩ := ob_bind hf
    have hFc := va_free (wc := ce_X5 G.2.1 a0 S0) hD hS hA [0, 1, 2, 3, 4, 5, 6, 7, 8, 9, 10, 11, 12, 13, 14, 15, 16, 17, 18, 19, 20, 21, 22, 23, 24, 25, 26, 27, 28, 29, 30, 31, 32, 33, 34, 35, 36, 37, 38] rfl
    refine zc_wr (cf := (fun u => ce_X5 G.2.1 a0 u)) (ws' := ce_X5 G.2.1 a0 r2.2) (va_runV (As := [.int (-4)]) (rest := []) ⟨hx, hb, hml, hown, hts⟩ (c_X5_refuse l G a0 H.size S0 (-4) _ hr2) (cwV 1 hts gX5_reading_X5_refuse rfl rfl rfl (by decide +kernel) ⟨Nat.le_of_ble_eq_true rfl, Nat.le_of_ble_eq_true rfl⟩) ⟨PcM.blind, va_recv hK hP (ci := 5) (q0 := 0) rfl rfl, PcM.ok hP hD hK hE hS hFc⟩ rfl rfl hl.1 rfl (lv_room (Nat.le_of_ble_eq_true rfl)) dX5_reading_37 ⟨Nat.le_refl _, Nat.le_refl _⟩) hP hD hS hA [0, 1, 2, 3, 4, 5, 6, 7, 8, 9, 10, 11, 12, 13, 14, 15, 16, 17, 18, 19, 20, 21, 22, 23, 24, 25, 26, 27, 28, 29, 30, 31, 32, 33, 34, 35, 36, 37, 38] [] [0, 1, 2, 3, 4, 5, 6, 7, 8, 9, 10, 11, 12, 13, 14, 15, 16, 17, 18, 19, 20, 21, 22, 23, 24, 25, 26, 27, 28, 29, 30, 31, 32, 33, 34, 35, 36, 37, 38] rfl rfl (by decide) (by decide) (by decide) rfl (fun H locs hP hD hS => ?_)
    exact fin _ _ _ _ _ _ hf hP hD hS dX5_reading_40
  have blk72 : ∀ (S0 : ST_X5), f_X5_reading_b72 S0 = some out → ∀ (H : Heap) (locs : List Loc), va_P G.1 vwCl (ce_X5 G.2.1 a0 S0) H → va_D A (ce_X5 G.2.1 a0 S0) → va_S A s.heap H locs → ∀ (ls : Array Slot), lv_has ls 5 [(0, .ref a0.1)] → W p l e (headSpec wsX5_reading rm_X5_reading).room s m args below meth c H locs 0 0 Q (F0 m 72 ls []) := by
    intro S0 hf H locs hP hD hS ls hl
    rw [f_X5_reading_b72] at hf
    refine lv_aload_n hx hb dX5_reading_72 rfl (lv_at hl 0 rfl) ?_
    refine lv_bipush (v := (-6)) hx hb dX5_reading_73 (by decide) ?_
    obtain ⟨r3, hr3, hf⟩ := ob_bind hf
    have hFc := va_free (wc := ce_X5 G.2.1 a0 S0) hD hS hA [0, 1, 2, 3, 4, 5, 6, 7, 8, 9, 10, 11, 12, 13, 14, 15, 16, 17, 18, 19, 20, 21, 22, 23, 24, 25, 26, 27, 28, 29, 30, 31, 32, 33, 34, 35, 36, 37, 38] rfl
    refine zc_wr (cf := (fun u => ce_X5 G.2.1 a0 u)) (ws' := ce_X5 G.2.1 a0 r3.2) (va_runV (As := [.int (-6)]) (rest := []) ⟨hx, hb, hml, hown, hts⟩ (c_X5_refuse l G a0 H.size S0 (-6) _ hr3) (cwV 1 hts gX5_reading_X5_refuse rfl rfl rfl (by decide +kernel) ⟨Nat.le_of_ble_eq_true rfl, Nat.le_of_ble_eq_true rfl⟩) ⟨PcM.blind, va_recv hK hP (ci := 5) (q0 := 0) rfl rfl, PcM.ok hP hD hK hE hS hFc⟩ rfl rfl hl.1 rfl (lv_room (Nat.le_of_ble_eq_true rfl)) dX5_reading_75 ⟨Nat.le_refl _, Nat.le_refl _⟩) hP hD hS hA [0, 1, 2, 3, 4, 5, 6, 7, 8, 9, 10, 11, 12, 13, 14, 15, 16, 17, 18, 19, 20, 21, 22, 23, 24, 25, 26, 27, 28, 29, 30, 31, 32, 33, 34, 35, 36, 37, 38] [] [0, 1, 2, 3, 4, 5, 6, 7, 8, 9, 10, 11, 12, 13, 14, 15, 16, 17, 18, 19, 20, 21, 22, 23, 24, 25, 26, 27, 28, 29, 30, 31, 32, 33, 34, 35, 36, 37, 38] rfl rfl (by decide) (by decide) (by decide) rfl (fun H locs hP hD hS => ?_)
    exact fin _ _ _ _ _ _ hf hP hD hS dX5_reading_78
  have go : ∀ (H : Heap) (locs : List Loc), va_P G.1 vwCl (ce_X5 G.2.1 a0 S0) H → va_D A (ce_X5 G.2.1 a0 S0) → va_S A s.heap H locs → ∀ (ls : Array Slot), lv_has ls 5 [(0, .ref a0.1), (1, .int p1), (2, .int p2), (3, .int p3), (4, .int p4)] → W p l e (headSpec wsX5_reading rm_X5_reading).room s m args below meth c H locs 0 0 Q (F0 m 0 ls []) := by
    intro H locs hP hD hS ls hl
    refine lv_iload_n hx hb dX5_reading_0 rfl (lv_at hl 2 rfl) ?_
    obtain ⟨r4, hr4, hf⟩ := ob_bind hf
    have hPc : va_P G.1 vwCl (([] : va_W)) H := hP.sub [] rfl
    have hDc : va_D A (([] : va_W)) := hD.sub [] (by decide) rfl
    have hFc := va_free (wc := ([] : va_W)) hD hS hA [] rfl
    refine zc_ro (va_runS (As := [.int p2]) (rest := []) ⟨hx, hb, hml, hown, hts⟩ (c_X5_isPlace l G H.size p2 _ hr4) (va_cwS 1 hts gX5_reading_X5_isPlace rfl rfl rfl (by decide +kernel) ⟨Nat.le_of_ble_eq_true rfl, Nat.le_of_ble_eq_true rfl⟩) ⟨PcM.blind, PcM.ok hPc hDc hK hE hS hFc⟩ rfl rfl hl.1 rfl (lv_room (Nat.le_of_ble_eq_true rfl)) dX5_reading_1 ⟨Nat.le_refl _, Nat.le_refl _⟩) hP hD hS hA [] rfl (fun H locs hP hS => ?_)
    refine lv_if_eq (tgt := 18) hx hb dX5_reading_4 (by decide) (fun c5 => ?_) (fun c5 => ?_)
    · replace hf := ob_pos c5 hf
      exact blk18 _ hf _ _ hP hD hS _ (lv_sub hl [0] rfl)
    · replace hf := ob_neg c5 hf
      refine lv_iload hx hb dX5_reading_7 (lv_at hl 4 rfl) ?_
      refine lv_if_lt (tgt := 18) hx hb dX5_reading_9 (by decide) (fun c6 => ?_) (fun c6 => ?_)
      · replace hf := ob_pos c6 hf
        exact blk18 _ hf _ _ hP hD hS _ (lv_sub hl [0] rfl)
      · replace hf := ob_neg c6 hf
        refine lv_iload hx hb dX5_reading_12 (lv_at hl 4 rfl) ?_
        refine lv_iconst (v := 4) hx hb dX5_reading_14 (by decide) ?_
        refine lv_icmp_lt (tgt := 24) hx hb dX5_reading_15 (by decide) (fun c7 => ?_) (fun c7 => ?_)
        · replace hf := ob_pos c7 hf
          refine lv_iload_n hx hb dX5_reading_24 rfl (lv_at hl 1 rfl) ?_
          refine lv_if_lt (tgt := 34) hx hb dX5_reading_25 (by decide) (fun c8 => ?_) (fun c8 => ?_)
          · replace hf := ob_pos c8 hf
            exact blk34 _ hf _ _ hP hD hS _ (lv_sub hl [0] rfl)
          · replace hf := ob_neg c8 hf
            refine lv_iload_n hx hb dX5_reading_28 rfl (lv_at hl 3 rfl) ?_
            refine lv_bipush (v := 10) hx hb dX5_reading_29 (by decide) ?_
            refine lv_icmp_ge (tgt := 41) hx hb dX5_reading_31 (by decide) (fun c9 => ?_) (fun c9 => ?_)
            · replace hf := ob_pos c9 hf
              refine lv_iload_n hx hb dX5_reading_41 rfl (lv_at hl 1 rfl) ?_
              refine lv_sipush (v := 1100) hx hb dX5_reading_42 (by decide) ?_
              refine lv_icmp_gt (tgt := 72) hx hb dX5_reading_45 (by decide) (fun c10 => ?_) (fun c10 => ?_)
              · replace hf := ob_pos c10 hf
                exact blk72 _ hf _ _ hP hD hS _ (lv_sub hl [0] rfl)
              · replace hf := ob_neg c10 hf
                refine lv_iload_n hx hb dX5_reading_48 rfl (lv_at hl 3 rfl) ?_
                refine lv_bipush (v := 99) hx hb dX5_reading_49 (by decide) ?_
                refine lv_icmp_gt (tgt := 72) hx hb dX5_reading_51 (by decide) (fun c11 => ?_) (fun c11 => ?_)
                · replace hf := ob_pos c11 hf
                  exact blk72 _ hf _ _ hP hD hS _ (lv_sub hl [0] rfl)
                · replace hf := ob_neg c11 hf
                  refine lv_aload_n hx hb dX5_reading_54 rfl (lv_at hl 0 rfl) ?_
                  refine va_get (D := G.1) (ci := 5) (v := .ref a0.2.2.1.1) (C := RX5) (T := TX5) (N := 9) hx hb hts hinX5 hown hK hP 0 rfl rfl 1 (by decide) lk0 (fun _ h9 => h9) rfl dX5_reading_55 ?_
                  refine va_getN (D := G.1) (ci := 4) (v := .ref a0.2.2.1.2.2.1) (C := RX4) (T := TX4) (N := 3) hx hb hts hinX4 hown hK hP 3 rfl rfl 1 (by decide) lk1 (fun _ h9 => h9) rfl dX5_reading_58 ?_
                  refine lv_iload_n hx hb dX5_reading_61 rfl (lv_at hl 1 rfl) ?_
                  refine lv_iload_n hx hb dX5_reading_62 rfl (lv_at hl 2 rfl) ?_
                  refine lv_iload_n hx hb dX5_reading_63 rfl (lv_at hl 3 rfl) ?_
                  refine lv_iload hx hb dX5_reading_64 (lv_at hl 4 rfl) ?_
                  obtain ⟨r12, hr12, hf⟩ := ob_bind hf
                  have hPc : va_P G.1 vwCl (ce_X0 G.2.1 a0.2.2.1.2.2 S0.2.1.2.1) H := hP.sub [10, 11, 12, 13, 14] rfl
                  have hDc : va_D A (ce_X0 G.2.1 a0.2.2.1.2.2 S0.2.1.2.1) := hD.sub [10, 11, 12, 13, 14] (by decide) rfl
                  have hFc := va_free (wc := ce_X0 G.2.1 a0.2.2.1.2.2 S0.2.1.2.1) hD hS hA [10, 11, 12, 13, 14] rfl
                  refine zc_wr (cf := (fun u => ce_X0 G.2.1 a0.2.2.1.2.2 u)) (ws' := ce_X5 G.2.1 a0 (S0.1, (S0.2.1.1, r12.2, S0.2.1.2.2), S0.2.2.1, S0.2.2.2.1, S0.2.2.2.2.1, S0.2.2.2.2.2.1, S0.2.2.2.2.2.2.1, S0.2.2.2.2.2.2.2.1, S0.2.2.2.2.2.2.2.2)) (va_runVN (As := [.int p1, .int p2, .int p3, .int p4]) (rest := []) ⟨hx, hb, hml, hown, hts⟩ (c_X0_add l G a0.2.2.1.2.2 H.size S0.2.1.2.1 p1 p2 p3 p4 _ hr12) (⟨va_cnB 4 hts gX5_reading_X0_add_n139 rfl rfl rfl (hE.1 _ nw_56) lk2 (by decide +kernel) ⟨Nat.le_of_ble_eq_true rfl, Nat.le_of_ble_eq_true rfl⟩, lk3, lk4⟩) ⟨PcM.blind, va_recv hK hPc (ci := 0) (q0 := 0) rfl rfl, PcM.ok hPc hDc hK hE hS hFc⟩ rfl rfl hl.1 rfl (lv_room (Nat.le_of_ble_eq_true rfl)) dX5_reading_66 ⟨Nat.le_refl _, Nat.le_refl _⟩) hP hD hS hA [10, 11, 12, 13, 14] [0, 1, 2, 3, 4, 5, 6, 7, 8, 9, 15, 16, 17, 18, 19, 20, 21, 22, 23, 24, 25, 26, 27, 28, 29, 30, 31, 32, 33, 34, 35, 36, 37, 38] [0, 1, 2, 3, 4, 5, 6, 7, 8, 9, 34, 35, 36, 37, 38, 10, 11, 12, 13, 14, 15, 16, 17, 18, 19, 20, 21, 22, 23, 24, 25, 26, 27, 28, 29, 30, 31, 32, 33] rfl rfl (by decide) (by decide) (by decide) rfl (fun H locs hP hD hS => ?_)
                  refine lv_if_ne (tgt := 79) hx hb dX5_reading_69 (by decide) (fun c13 => ?_) (fun c13 => ?_)
                  · replace hf := ob_neg c13 hf
                    refine lv_aload_n hx hb dX5_reading_79 rfl (lv_at hl 0 rfl) ?_
                    refine va_get (D := G.1) (ci := 5) (v := .ref a0.2.2.1.1) (C := RX5) (T := TX5) (N := 9) hx hb hts hinX5 hown hK hP 0 rfl rfl 1 (by decide) lk0 (fun _ h9 => h9) rfl dX5_reading_80 ?_
                    refine va_getN (D := G.1) (ci := 4) (v := .ref a0.2.2.1.2.2.1) (C := RX4) (T := TX4) (N := 3) hx hb hts hinX4 hown hK hP 3 rfl rfl 1 (by decide) lk1 (fun _ h9 => h9) rfl dX5_reading_83 ?_
                    refine va_getN (D := G.1) (ci := 0) (v := .int r12.2.2.2.2.2) (C := RX0) (T := TX0) (N := 5) hx hb hts hinX0 hown hK hP 10 rfl rfl 4 (by decide) lk5 (fun _ h9 => h9) rfl dX5_reading_86 ?_
                    exact fin _ _ _ _ _ _ hf hP hD hS dX5_reading_89
                  · replace hf := ob_pos c13 hf
                    exact blk72 _ hf _ _ hP hD hS _ (lv_sub hl [0] rfl)
            · replace hf := ob_neg c9 hf
              exact blk34 _ hf _ _ hP hD hS _ (lv_sub hl [0] rfl)
        · replace hf := ob_neg c7 hf
          exact blk18 _ hf _ _ hP hD hS _ (lv_sub hl [0] rfl)
  exact go _ _ hP hD hS _ hl
abbrev rm_X5_forget : Room := { frames := 2, cells := 0, slots := 0, locals := 45 }
set_option maxHeartbeats 4000000 in
set_option maxRecDepth 100000 in
theorem c_X5_forget (l : Launch) (G : zG) (a0 : AT_X5) (sz : Nat) (S0 : ST_X5) (out : Int32 × ST_X5) (hf : f_X5_forget S0 = some out) : Met l yX5_forget wsX5_forget rm_X5_forget (PcM G (ce_X5 G.2.1 a0 S0) [.ref a0.1] sz) (QWr G (fun u => ce_X5 G.2.1 a0 u) out (va_A (ce_X5 G.2.1 a0 S0) sz)) 0 0 (va_A (ce_X5 G.2.1 a0 S0) sz) := by
  rw [f_X5_forget] at hf
  refine Met.ofW (cc := cX5_forget) (maxL := 1) (ret := (some .int)) (by decide) rfl ?_
  intro p e s m args below meth c s₁ B hml hv
  obtain ⟨hargs, hsz, hP, hK, hD0, hE⟩ := hv
  have hx := B.exec
  have hb := B.bytes
  have hr := B.returns
  have hts := atoms_spec (ws := wsX5_forget) B.pre
  have hown : s.vm.findClass RX5 = some m.cls := findClass_of_methodNamed B.named
  have hlocks := B.notSynchronized
  subst hsz
  have hD := hD0.self (sz := s.heap.size)
  generalize hAe : va_A (ce_X5 G.2.1 a0 S0) s.heap.size = A at hD hE ⊢
  have hA : ∀ q : Nat, s.heap.size ≤ q → A q := fun q h => by rw [← hAe]; exact Or.inr h
  have hS : va_S A s.heap s.heap [] := va_S.rf
  have hl := lv_entry ([.ref a0.1]) (n := 1) (Nat.le_of_ble_eq_true rfl)
  have hent : entryFrame m args 1 = F0 m 0 ((lg_sl ([.ref a0.1]) ++ List.replicate (1 - (lg_sl ([.ref a0.1])).length) Slot.unset).toArray) [] := by rw [hargs, lg_entry_eq]
  rw [hent]
  clear hent
  generalize (lg_sl ([.ref a0.1]) ++ List.replicate (1 - (lg_sl ([.ref a0.1])).length) Slot.unset).toArray = ls at hl ⊢
  have hl : lv_has ls 1 [(0, .ref a0.1)] := hl
  have lk0 := hts (Cond.fieldLink RX5 19 "EnginesOnList" "now" "LEnginesOnList$World;") (List.mem_of_getElem? (i := 1) rfl)
  have lk1 := va_Nw.use (A := args) rfl (hE.1 _ nw_15)
  have lk2 := va_Nw.use (A := args) rfl (hE.1 _ nw_12)
  have hinX5 : ∀ w ∈ wsX50, w ∈ wsX5_forget := by decide +kernel
  have hinX4 : ∀ w ∈ wsX40, w ∈ wsX5_forget := by decide +kernel
  have hinX0 : ∀ w ∈ wsX00, w ∈ wsX5_forget := by decide +kernel
  have fin : ∀ (pc : Nat) (v : Int32) (u : ST_X5) (H : Heap) (locs : List Loc) (ls : Array Slot), some (v, u) = some out → va_P G.1 vwCl (ce_X5 G.2.1 a0 u) H → va_D A (ce_X5 G.2.1 a0 u) → va_S A s.heap H locs → decode cX5_forget pc = .ok (.ireturn, 1) → W p l e (headSpec wsX5_forget rm_X5_forget).room s m args below meth c H locs 0 0 (MQ below (QWr G (fun u => ce_X5 G.2.1 a0 u) out A) args s 0 0 A) (F0 m pc ls [.int v]) := fun pc v u H locs ls ho hP hD hS hd => W.iret (v := v) hx hb hr (fun t ht hW => ⟨⟨v, u, rfl, ob_pair ho, by first | (rw [ht]; exact hP) | (dsimp only; rw [ht]; exact hP), hD⟩, hS.F ht⟩) hS.2.2 hd
  generalize MQ below (QWr G (fun u => ce_X5 G.2.1 a0 u) out A) args s 0 0 A = Q at fin ⊢
  have go : ∀ (H : Heap) (locs : List Loc), va_P G.1 vwCl (ce_X5 G.2.1 a0 S0) H → va_D A (ce_X5 G.2.1 a0 S0) → va_S A s.heap H locs → ∀ (ls : Array Slot), lv_has ls 1 [(0, .ref a0.1)] → W p l e (headSpec wsX5_forget rm_X5_forget).room s m args below meth c H locs 0 0 Q (F0 m 0 ls []) := by
    intro H locs hP hD hS ls hl
    refine lv_aload_n hx hb dX5_forget_0 rfl (lv_at hl 0 rfl) ?_
    refine va_get (D := G.1) (ci := 5) (v := .ref a0.2.2.1.1) (C := RX5) (T := TX5) (N := 9) hx hb hts hinX5 hown hK hP 0 rfl rfl 1 (by decide) lk0 (fun _ h9 => h9) rfl dX5_forget_1 ?_
    refine va_getN (D := G.1) (ci := 4) (v := .ref a0.2.2.1.2.2.1) (C := RX4) (T := TX4) (N := 3) hx hb hts hinX4 hown hK hP 3 rfl rfl 1 (by decide) lk1 (fun _ h9 => h9) rfl dX5_forget_4 ?_
    refine va_getN (D := G.1) (ci := 0) (v := .int S0.2.1.2.1.2.2.2.2) (C := RX0) (T := TX0) (N := 5) hx hb hts hinX0 hown hK hP 10 rfl rfl 4 (by decide) lk2 (fun _ h9 => h9) rfl dX5_forget_7 ?_
    refine lv_if_ne (tgt := 20) hx hb dX5_forget_10 (by decide) (fun c1 => ?_) (fun c1 => ?_)
    · replace hf := ob_neg c1 hf
      refine lv_aload_n hx hb dX5_forget_20 rfl (lv_at hl 0 rfl) ?_
      refine va_get (D := G.1) (ci := 5) (v := .ref a0.2.2.1.1) (C := RX5) (T := TX5) (N := 9) hx hb hts hinX5 hown hK hP 0 rfl rfl 1 (by decide) lk0 (fun _ h9 => h9) rfl dX5_forget_21 ?_
      refine va_getN (D := G.1) (ci := 4) (v := .ref a0.2.2.1.2.2.1) (C := RX4) (T := TX4) (N := 3) hx hb hts hinX4 hown hK hP 3 rfl rfl 1 (by decide) lk1 (fun _ h9 => h9) rfl dX5_forget_24 ?_
      refine lv_dup hx hb dX5_forget_27 rfl ?_
      refine va_getN (D := G.1) (ci := 0) (v := .int S0.2.1.2.1.2.2.2.2) (C := RX0) (T := TX0) (N := 5) hx hb hts hinX0 hown hK hP 10 rfl rfl 4 (by decide) lk2 (fun _ h9 => h9) rfl dX5_forget_28 ?_
      refine lv_iconst (v := 1) hx hb dX5_forget_31 (by decide) ?_
      refine lv_isub hx hb dX5_forget_32 ?_
      refine va_putN (D := G.1) (ci := 0) (v := .int (S0.2.1.2.1.2.2.2.2 - 1)) (ty := .int) (C := RX0) (T := TX0) (N := 5) hx hb hts hinX0 tyX0 tyX0_ok nmX0 hown hK hP hD hS 10 rfl rfl 4 (by decide) lk2 (fun _ h9 => h9) rfl (by decide +kernel) rfl rfl (Nat.le_of_ble_eq_true rfl) dX5_forget_33 (fun H locs hP hD hS => ?_)
      have hP : va_P G.1 vwCl (ce_X5 G.2.1 a0 (S0.1, (S0.2.1.1, (S0.2.1.2.1.1, S0.2.1.2.1.2.1, S0.2.1.2.1.2.2.1, S0.2.1.2.1.2.2.2.1, S0.2.1.2.1.2.2.2.2 - 1), S0.2.1.2.2), S0.2.2.1, S0.2.2.2.1, S0.2.2.2.2.1, S0.2.2.2.2.2.1, S0.2.2.2.2.2.2.1, S0.2.2.2.2.2.2.2.1, S0.2.2.2.2.2.2.2.2)) H := hP
      have hD : va_D A (ce_X5 G.2.1 a0 (S0.1, (S0.2.1.1, (S0.2.1.2.1.1, S0.2.1.2.1.2.1, S0.2.1.2.1.2.2.1, S0.2.1.2.1.2.2.2.1, S0.2.1.2.1.2.2.2.2 - 1), S0.2.1.2.2), S0.2.2.1, S0.2.2.2.1, S0.2.2.2.2.1, S0.2.2.2.2.2.1, S0.2.2.2.2.2.2.1, S0.2.2.2.2.2.2.2.1, S0.2.2.2.2.2.2.2.2)) := hD
      refine lv_aload_n hx hb dX5_forget_36 rfl (lv_at hl 0 rfl) ?_
      refine va_get (D := G.1) (ci := 5) (v := .ref a0.2.2.1.1) (C := RX5) (T := TX5) (N := 9) hx hb hts hinX5 hown hK hP 0 rfl rfl 1 (by decide) lk0 (fun _ h9 => h9) rfl dX5_forget_37 ?_
      refine va_getN (D := G.1) (ci := 4) (v := .ref a0.2.2.1.2.2.1) (C := RX4) (T := TX4) (N := 3) hx hb hts hinX4 hown hK hP 3 rfl rfl 1 (by decide) lk1 (fun _ h9 => h9) rfl dX5_forget_40 ?_
      refine va_getN (D := G.1) (ci := 0) (v := .int (S0.2.1.2.1.2.2.2.2 - 1)) (C := RX0) (T := TX0) (N := 5) hx hb hts hinX0 hown hK hP 10 rfl rfl 4 (by decide) lk2 (fun _ h9 => h9) rfl dX5_forget_43 ?_
      exact fin _ _ _ _ _ _ hf hP hD hS dX5_forget_46
    · replace hf := ob_pos c1 hf
      refine lv_aload_n hx hb dX5_forget_13 rfl (lv_at hl 0 rfl) ?_
      refine lv_bipush (v := (-3)) hx hb dX5_forget_14 (by decide) ?_
      obtain ⟨r2, hr2, hf⟩ := ob_bind hf
      have hFc := va_free (wc := ce_X5 G.2.1 a0 S0) hD hS hA [0, 1, 2, 3, 4, 5, 6, 7, 8, 9, 10, 11, 12, 13, 14, 15, 16, 17, 18, 19, 20, 21, 22, 23, 24, 25, 26, 27, 28, 29, 30, 31, 32, 33, 34, 35, 36, 37, 38] rfl
      refine zc_wr (cf := (fun u => ce_X5 G.2.1 a0 u)) (ws' := ce_X5 G.2.1 a0 r2.2) (va_runV (As := [.int (-3)]) (rest := []) ⟨hx, hb, hml, hown, hts⟩ (c_X5_refuse l G a0 H.size S0 (-3) _ hr2) (cwV 1 hts gX5_forget_X5_refuse rfl rfl rfl (by decide +kernel) ⟨Nat.le_of_ble_eq_true rfl, Nat.le_of_ble_eq_true rfl⟩) ⟨PcM.blind, va_recv hK hP (ci := 5) (q0 := 0) rfl rfl, PcM.ok hP hD hK hE hS hFc⟩ rfl rfl hl.1 rfl (lv_room (Nat.le_of_ble_eq_true rfl)) dX5_forget_16 ⟨Nat.le_refl _, Nat.le_refl _⟩) hP hD hS hA [0, 1, 2, 3, 4, 5, 6, 7, 8, 9, 10, 11, 12, 13, 14, 15, 16, 17, 18, 19, 20, 21, 22, 23, 24, 25, 26, 27, 28, 29, 30, 31, 32, 33, 34, 35, 36, 37, 38] [] [0, 1, 2, 3, 4, 5, 6, 7, 8, 9, 10, 11, 12, 13, 14, 15, 16, 17, 18, 19, 20, 21, 22, 23, 24, 25, 26, 27, 28, 29, 30, 31, 32, 33, 34, 35, 36, 37, 38] rfl rfl (by decide) (by decide) (by decide) rfl (fun H locs hP hD hS => ?_)
      exact fin _ _ _ _ _ _ hf hP hD hS dX5_forget_19
  exact go _ _ hP hD hS _ hl
abbrev rm_X5_fitting : Room := { frames := 6, cells := 0, slots := 0, locals := 144 }
set_option maxHeartbeats 4000000 in
set_option maxRecDepth 100000 in
theorem c_X5_fitting (l : Launch) (G : zG) (a0 : AT_X5) (sz : Nat) (S0 : ST_X5) (p1 : Int32) (p2 : Int32) (out : Int32 × ST_X5) (hf : f_X5_fitting S0 p1 p2 = some out) : Met l yX5_fitting wsX5_fitting rm_X5_fitting (PcM G (ce_X5 G.2.1 a0 S0) [.ref a0.1, .int p1, .int p2] sz) (QWr G (fun u => ce_X5 G.2.1 a0 u) out (va_A (ce_X5 G.2.1 a0 S0) sz)) 0 0 (va_A (ce_X5 G.2.1 a0 S0) sz) := by
  rw [f_X5_fitting] at hf
  refine Met.ofW (cc := cX5_fitting) (maxL := 3) (ret := (some .int)) (by decide) rfl ?_
  intro p e s m args below meth c s₁ B hml hv
  obtain ⟨hargs, hsz, hP, hK, hD0, hE⟩ := hv
  have hx := B.exec
  have hb := B.bytes
  have hr := B.returns
  have hts := atoms_spec (ws := wsX5_fitting) B.pre
  have hown : s.vm.findClass RX5 = some m.cls := findClass_of_methodNamed B.named
  have hlocks := B.notSynchronized
  subst hsz
  have hD := hD0.self (sz := s.heap.size)
  generalize hAe : va_A (ce_X5 G.2.1 a0 S0) s.heap.size = A at hD hE ⊢
  have hA : ∀ q : Nat, s.heap.size ≤ q → A q := fun q h => by rw [← hAe]; exact Or.inr h
  have hS : va_S A s.heap s.heap [] := va_S.rf
  have hl := lv_entry ([.ref a0.1, .int p1, .int p2]) (n := 3) (Nat.le_of_ble_eq_true rfl)
  have hent : entryFrame m args 3 = F0 m 0 ((lg_sl ([.ref a0.1, .int p1, .int p2]) ++ List.replicate (3 - (lg_sl ([.ref a0.1, .int p1, .int p2])).length) Slot.unset).toArray) [] := by rw [hargs, lg_entry_eq]
  rw [hent]
  clear hent
  generalize (lg_sl ([.ref a0.1, .int p1, .int p2]) ++ List.replicate (3 - (lg_sl ([.ref a0.1, .int p1, .int p2])).length) Slot.unset).toArray = ls at hl ⊢
  have hl : lv_has ls 3 [(0, .ref a0.1), (1, .int p1), (2, .int p2)] := hl
  have lk0 := hts (Cond.initialized RX4) (List.mem_of_getElem? (i := 9) rfl)
  have lk1 := hts (Cond.instanceMethod yX4_fittingOnes) (List.mem_of_getElem? (i := 8) rfl)
  have lk2 := hts (Cond.selects RX4 yX4_fittingOnes yX4_fittingOnes) (List.mem_of_getElem? (i := 10) rfl)
  have lk3 := hts (Cond.fieldLink RX5 19 "EnginesOnList" "now" "LEnginesOnList$World;") (List.mem_of_getElem? (i := 1) rfl)
  have lk4 := va_Nw.use (A := args) rfl (hE.1 _ nw_15)
  have lk5 := va_Nw.use (A := args) rfl (hE.1 _ nw_12)
  have hinX5 : ∀ w ∈ wsX50, w ∈ wsX5_fitting := by decide +kernel
  have hinX4 : ∀ w ∈ wsX40, w ∈ wsX5_fitting := by decide +kernel
  have hinX0 : ∀ w ∈ wsX00, w ∈ wsX5_fitting := by decide +kernel
  have fin : ∀ (pc : Nat) (v : Int32) (u : ST_X5) (H : Heap) (locs : List Loc) (ls : Array Slot), some (v, u) = some out → va_P G.1 vwCl (ce_X5 G.2.1 a0 u) H → va_D A (ce_X5 G.2.1 a0 u) → va_S A s.heap H locs → decode cX5_fitting pc = .ok (.ireturn, 1) → W p l e (headSpec wsX5_fitting rm_X5_fitting).room s m args below meth c H locs 0 0 (MQ below (QWr G (fun u => ce_X5 G.2.1 a0 u) out A) args s 0 0 A) (F0 m pc ls [.int v]) := fun pc v u H locs ls ho hP hD hS hd => W.iret (v := v) hx hb hr (fun t ht hW => ⟨⟨v, u, rfl, ob_pair ho, by first | (rw [ht]; exact hP) | (dsimp only; rw [ht]; exact hP), hD⟩, hS.F ht⟩) hS.2.2 hd
  generalize MQ below (QWr G (fun u => ce_X5 G.2.1 a0 u) out A) args s 0 0 A = Q at fin ⊢
  have blk18 : ∀ (S0 : ST_X5), f_X5_fitting_b18 S0 = some out → ∀ (H : Heap) (locs : List Loc), va_P G.1 vwCl (ce_X5 G.2.1 a0 S0) H → va_D A (ce_X5 G.2.1 a0 S0) → va_S A s.heap H locs → ∀ (ls : Array Slot), lv_has ls 3 [(0, .ref a0.1)] → W p l e (headSpec wsX5_fitting rm_X5_fitting).room s m args below meth c H locs 0 0 Q (F0 m 18 ls []) := by
    intro S0 hf H locs hP hD hS ls hl
    rw [f_X5_fitting_b18] at hf
    refine lv_aload_n hx hb dX5_fitting_18 rfl (lv_at hl 0 rfl) ?_
    refine lv_iconst (v := (-1)) hx hb dX5_fitting_19 (by decide) ?_
    obtain ⟨r1, hr1, hf⟩ := ob_bind hf
    have hFc := va_free (wc := ce_X5 G.2.1 a0 S0) hD hS hA [0, 1, 2, 3, 4, 5, 6, 7, 8, 9, 10, 11, 12, 13, 14, 15, 16, 17, 18, 19, 20, 21, 22, 23, 24, 25, 26, 27, 28, 29, 30, 31, 32, 33, 34, 35, 36, 37, 38] rfl
    refine zc_wr (cf := (fun u => ce_X5 G.2.1 a0 u)) (ws' := ce_X5 G.2.1 a0 r1.2) (va_runV (As := [.int (-1)]) (rest := []) ⟨hx, hb, hml, hown, hts⟩ (c_X5_refuse l G a0 H.size S0 (-1) _ hr1) (cwV 1 hts gX5_fitting_X5_refuse rfl rfl rfl (by decide +kernel) ⟨Nat.le_of_ble_eq_true rfl, Nat.le_of_ble_eq_true rfl⟩) ⟨PcM.blind, va_recv hK hP (ci := 5) (q0 := 0) rfl rfl, PcM.ok hP hD hK hE hS hFc⟩ rfl rfl hl.1 rfl (lv_room (Nat.le_of_ble_eq_true rfl)) dX5_fitting_20 ⟨Nat.le_refl _, Nat.le_refl _⟩) hP hD hS hA [0, 1, 2, 3, 4, 5, 6, 7, 8, 9, 10, 11, 12, 13, 14, 15, 16, 17, 18, 19, 20, 21, 22, 23, 24, 25, 26, 27, 28, 29, 30, 31, 32, 33, 34, 35, 36, 37, 38] [] [0, 1, 2, 3, 4, 5, 6, 7, 8, 9, 10, 11, 12, 13, 14, 15, 16, 17, 18, 19, 20, 21, 22, 23, 24, 25, 26, 27, 28, 29, 30, 31, 32, 33, 34, 35, 36, 37, 38] rfl rfl (by decide) (by decide) (by decide) rfl (fun H locs hP hD hS => ?_)
    exact fin _ _ _ _ _ _ hf hP hD hS dX5_fitting_23
  have blk33 : ∀ (S0 : ST_X5), f_X5_fitting_b33 S0 = some out → ∀ (H : Heap) (locs : List Loc), va_P G.1 vwCl (ce_X5 G.2.1 a0 S0) H → va_D A (ce_X5 G.2.1 a0 S0) → va_S A s.heap H locs → ∀ (ls : Array Slot), lv_has ls 3 [(0, .ref a0.1)] → W p l e (headSpec wsX5_fitting rm_X5_fitting).room s m args below meth c H locs 0 0 Q (F0 m 33 ls []) := by
    intro S0 hf H locs hP hD hS ls hl
    rw [f_X5_fitting_b33] at hf
    refine lv_aload_n hx hb dX5_fitting_33 rfl (lv_at hl 0 rfl) ?_
    refine lv_bipush (v := (-2)) hx hb dX5_fitting_34 (by decide) ?_
    obtain ⟨r2, hr2, hf⟩ := ob_bind hf
    have hFc := va_free (wc := ce_X5 G.2.1 a0 S0) hD hS hA [0, 1, 2, 3, 4, 5, 6, 7, 8, 9, 10, 11, 12, 13, 14, 15, 16, 17, 18, 19, 20, 21, 22, 23, 24, 25, 26, 27, 28, 29, 30, 31, 32, 33, 34, 35, 36, 37, 38] rfl
    refine zc_wr (cf := (fun u => ce_X5 G.2.1 a0 u)) (ws' := ce_X5 G.2.1 a0 r2.2) (va_runV (As := [.int (-2)]) (rest := []) ⟨hx, hb, hml, hown, hts⟩ (c_X5_refuse l G a0 H.size S0 (-2) _ hr2) (cwV 1 hts gX5_fitting_X5_refuse rfl rfl rfl (by decide +kernel) ⟨Nat.le_of_ble_eq_true rfl, Nat.le_of_ble_eq_true rfl⟩) ⟨PcM.blind, va_recv hK hP (ci := 5) (q0 := 0) rfl rfl, PcM.ok hP hD hK hE hS hFc⟩ rfl rfl hl.1 rfl (lv_room (Nat.le_of_ble_eq_true rfl)) dX5_fitting_36 ⟨Nat.le_refl _, Nat.le_refl _⟩) hP hD hS hA [0, 1, 2, 3, 4, 5, 6, 7, 8, 9, 10, 11, 12, 13, 14, 15, 16, 17, 18, 19, 20, 21, 22, 23, 24, 25, 26, 27, 28, 29, 30, 31, 32, 33, 34, 35, 36, 37, 38] [] [0, 1, 2, 3, 4, 5, 6, 7, 8, 9, 10, 11, 12, 13, 14, 15, 16, 17, 18, 19, 20, 21, 22, 23, 24, 25, 26, 27, 28, 29, 30, 31, 32, 33, 34, 35, 36, 37, 38] rfl rfl (by decide) (by decide) (by decide) rfl (fun H locs hP hD hS => ?_)
    exact fin _ _ _ _ _ _ hf hP hD hS dX5_fitting_39
  have blk55 : ∀ (S0 : ST_X5) (w1 : Int32) (w2 : Int32), f_X5_fitting_b55 S0 w1 w2 = some out → ∀ (H : Heap) (locs : List Loc), va_P G.1 vwCl (ce_X5 G.2.1 a0 S0) H → va_D A (ce_X5 G.2.1 a0 S0) → va_S A s.heap H locs → ∀ (ls : Array Slot), lv_has ls 3 [] → W p l e (headSpec wsX5_fitting rm_X5_fitting).room s m args below meth c H locs 0 0 Q (F0 m 55 ls [.int w2, .int w1, .ref a0.2.2.1.1]) := by
    intro S0 w1 w2 hf H locs hP hD hS ls hl
    rw [f_X5_fitting_b55] at hf
    obtain ⟨r3, hr3, hf⟩ := ob_bind hf
    have hPc : va_P G.1 vwCl (ce_X4 G.2.1 a0.2.2.1 S0.2.1) H := hP.sub [3, 4, 5, 6, 7, 8, 9, 10, 11, 12, 13, 14] rfl
    have hDc : va_D A (ce_X4 G.2.1 a0.2.2.1 S0.2.1) := hD.sub [3, 4, 5, 6, 7, 8, 9, 10, 11, 12, 13, 14] (by decide) rfl
    have hFc := va_free (wc := ce_X4 G.2.1 a0.2.2.1 S0.2.1) hD hS hA [3, 4, 5, 6, 7, 8, 9, 10, 11, 12, 13, 14] rfl
    refine zc_ro (va_runVN (As := [.int w1, .int w2]) (rest := []) ⟨hx, hb, hml, hown, hts⟩ (c_X4_fittingOnes l G a0.2.2.1 H.size S0.2.1 w1 w2 _ hr3) (⟨va_cnB 2 hts gX5_fitting_X4_fittingOnes_n145 rfl rfl rfl (hE.1 _ nw_57) lk0 (by decide +kernel) ⟨Nat.le_of_ble_eq_true rfl, Nat.le_of_ble_eq_true rfl⟩, lk1, lk2⟩) ⟨PcM.blind, va_recv hK hPc (ci := 4) (q0 := 0) rfl rfl, PcM.ok hPc hDc hK hE hS hFc⟩ rfl rfl hl.1 rfl (lv_room (Nat.le_of_ble_eq_true rfl)) dX5_fitting_55 ⟨Nat.le_refl _, Nat.le_refl _⟩) hP hD hS hA [3, 4, 5, 6, 7, 8, 9, 10, 11, 12, 13, 14] rfl (fun H locs hP hS => ?_)
    exact fin _ _ _ _ _ _ hf hP hD hS dX5_fitting_58
  have go : ∀ (H : Heap) (locs : List Loc), va_P G.1 vwCl (ce_X5 G.2.1 a0 S0) H → va_D A (ce_X5 G.2.1 a0 S0) → va_S A s.heap H locs → ∀ (ls : Array Slot), lv_has ls 3 [(0, .ref a0.1), (1, .int p1), (2, .int p2)] → W p l e (headSpec wsX5_fitting rm_X5_fitting).room s m args below meth c H locs 0 0 Q (F0 m 0 ls []) := by
    intro H locs hP hD hS ls hl
    refine lv_iload_n hx hb dX5_fitting_0 rfl (lv_at hl 1 rfl) ?_
    refine lv_if_lt (tgt := 18) hx hb dX5_fitting_1 (by decide) (fun c4 => ?_) (fun c4 => ?_)
    · replace hf := ob_pos c4 hf
      exact blk18 _ hf _ _ hP hD hS _ (lv_sub hl [0] rfl)
    · replace hf := ob_neg c4 hf
      refine lv_iload_n hx hb dX5_fitting_4 rfl (lv_at hl 1 rfl) ?_
      refine lv_aload_n hx hb dX5_fitting_5 rfl (lv_at hl 0 rfl) ?_
      refine va_get (D := G.1) (ci := 5) (v := .ref a0.2.2.1.1) (C := RX5) (T := TX5) (N := 9) hx hb hts hinX5 hown hK hP 0 rfl rfl 1 (by decide) lk3 (fun _ h9 => h9) rfl dX5_fitting_6 ?_
      refine va_getN (D := G.1) (ci := 4) (v := .ref a0.2.2.1.2.2.1) (C := RX4) (T := TX4) (N := 3) hx hb hts hinX4 hown hK hP 3 rfl rfl 1 (by decide) lk4 (fun _ h9 => h9) rfl dX5_fitting_9 ?_
      refine va_getN (D := G.1) (ci := 0) (v := .int S0.2.1.2.1.2.2.2.2) (C := RX0) (T := TX0) (N := 5) hx hb hts hinX0 hown hK hP 10 rfl rfl 4 (by decide) lk5 (fun _ h9 => h9) rfl dX5_fitting_12 ?_
      refine lv_icmp_lt (tgt := 24) hx hb dX5_fitting_15 (by decide) (fun c5 => ?_) (fun c5 => ?_)
      · replace hf := ob_pos c5 hf
        refine lv_iload_n hx hb dX5_fitting_24 rfl (lv_at hl 2 rfl) ?_
        refine lv_if_lt (tgt := 33) hx hb dX5_fitting_25 (by decide) (fun c6 => ?_) (fun c6 => ?_)
        · replace hf := ob_pos c6 hf
          exact blk33 _ hf _ _ hP hD hS _ (lv_sub hl [0] rfl)
        · replace hf := ob_neg c6 hf
          refine lv_iload_n hx hb dX5_fitting_28 rfl (lv_at hl 2 rfl) ?_
          refine lv_iconst (v := 1) hx hb dX5_fitting_29 (by decide) ?_
          refine lv_icmp_le (tgt := 40) hx hb dX5_fitting_30 (by decide) (fun c7 => ?_) (fun c7 => ?_)
          · replace hf := ob_pos c7 hf
            refine lv_aload_n hx hb dX5_fitting_40 rfl (lv_at hl 0 rfl) ?_
            refine va_get (D := G.1) (ci := 5) (v := .ref a0.2.2.1.1) (C := RX5) (T := TX5) (N := 9) hx hb hts hinX5 hown hK hP 0 rfl rfl 1 (by decide) lk3 (fun _ h9 => h9) rfl dX5_fitting_41 ?_
            refine lv_iload_n hx hb dX5_fitting_44 rfl (lv_at hl 1 rfl) ?_
            refine lv_iload_n hx hb dX5_fitting_45 rfl (lv_at hl 2 rfl) ?_
            refine lv_iconst (v := 1) hx hb dX5_fitting_46 (by decide) ?_
            refine lv_icmp_ne (tgt := 54) hx hb dX5_fitting_47 (by decide) (fun c8 => ?_) (fun c8 => ?_)
            · replace hf := ob_neg c8 hf
              refine lv_iconst (v := 0) hx hb dX5_fitting_54 (by decide) ?_
              exact blk55 _ _ _ hf _ _ hP hD hS _ (lv_sub hl [] rfl)
            · replace hf := ob_pos c8 hf
              refine lv_iconst (v := 1) hx hb dX5_fitting_50 (by decide) ?_
              refine lv_goto (tgt := 55) hx hb dX5_fitting_51 (by decide) ?_
              exact blk55 _ _ _ hf _ _ hP hD hS _ (lv_sub hl [] rfl)
          · replace hf := ob_neg c7 hf
            exact blk33 _ hf _ _ hP hD hS _ (lv_sub hl [0] rfl)
      · replace hf := ob_neg c5 hf
        exact blk18 _ hf _ _ hP hD hS _ (lv_sub hl [0] rfl)
  exact go _ _ hP hD hS _ hl
abbrev rm_X5_madeUp : Room := { frames := 7, cells := 0, slots := 0, locals := 166 }
set_option maxHeartbeats 4000000 in
set_option maxRecDepth 100000 in
theorem c_X5_madeUp (l : Launch) (G : zG) (a0 : AT_X5) (sz : Nat) (S0 : ST_X5) (out : Int32) (hf : f_X5_madeUp S0 = some out) : Met l yX5_madeUp wsX5_madeUp rm_X5_madeUp (PcM G (ce_X5 G.2.1 a0 S0) [.ref a0.1] sz) (QRo G (ce_X5 G.2.1 a0 S0) out (va_A (ce_X5 G.2.1 a0 S0) sz)) 0 0 (va_A (ce_X5 G.2.1 a0 S0) sz) := by
  rw [f_X5_madeUp] at hf
  refine Met.ofW (cc := cX5_madeUp) (maxL := 1) (ret := (some .int)) (by decide) rfl ?_
  intro p e s m args below meth c s₁ B hml hv
  obtain ⟨hargs, hsz, hP, hK, hD0, hE⟩ := hv
  have hx := B.exec
  have hb := B.bytes
  have hr := B.returns
  have hts := atoms_spec (ws := wsX5_madeUp) B.pre
  have hown : s.vm.findClass RX5 = some m.cls := findClass_of_methodNamed B.named
  have hlocks := B.notSynchronized
  subst hsz
  have hD := hD0.self (sz := s.heap.size)
  generalize hAe : va_A (ce_X5 G.2.1 a0 S0) s.heap.size = A at hD hE ⊢
  have hA : ∀ q : Nat, s.heap.size ≤ q → A q := fun q h => by rw [← hAe]; exact Or.inr h
  have hS : va_S A s.heap s.heap [] := va_S.rf
  have hl := lv_entry ([.ref a0.1]) (n := 1) (Nat.le_of_ble_eq_true rfl)
  have hent : entryFrame m args 1 = F0 m 0 ((lg_sl ([.ref a0.1]) ++ List.replicate (1 - (lg_sl ([.ref a0.1])).length) Slot.unset).toArray) [] := by rw [hargs, lg_entry_eq]
  rw [hent]
  clear hent
  generalize (lg_sl ([.ref a0.1]) ++ List.replicate (1 - (lg_sl ([.ref a0.1])).length) Slot.unset).toArray = ls at hl ⊢
  have hl : lv_has ls 1 [(0, .ref a0.1)] := hl
  have lk0 := hts (Cond.fieldLink RX5 19 "EnginesOnList" "now" "LEnginesOnList$World;") (List.mem_of_getElem? (i := 1) rfl)
  have lk1 := hts (Cond.initialized RX4) (List.mem_of_getElem? (i := 3) rfl)
  have lk2 := hts (Cond.instanceMethod yX4_madeUpOnes) (List.mem_of_getElem? (i := 2) rfl)
  have lk3 := hts (Cond.selects RX4 yX4_madeUpOnes yX4_madeUpOnes) (List.mem_of_getElem? (i := 4) rfl)
  have hinX5 : ∀ w ∈ wsX50, w ∈ wsX5_madeUp := by decide +kernel
  have fin : ∀ (pc : Nat) (v : Int32) (H : Heap) (locs : List Loc) (ls : Array Slot), some v = some out → va_P G.1 vwCl (ce_X5 G.2.1 a0 S0) H → va_D A (ce_X5 G.2.1 a0 S0) → va_S A s.heap H locs → decode cX5_madeUp pc = .ok (.ireturn, 1) → W p l e (headSpec wsX5_madeUp rm_X5_madeUp).room s m args below meth c H locs 0 0 (MQ below (QRo G (ce_X5 G.2.1 a0 S0) out A) args s 0 0 A) (F0 m pc ls [.int v]) := fun pc v H locs ls ho hP hD hS hd => W.iret (v := v) hx hb hr (fun t ht hW => ⟨⟨v, (), rfl, Option.some.inj ho, by first | (rw [ht]; exact hP) | (dsimp only; rw [ht]; exact hP)⟩, hS.F ht⟩) hS.2.2 hd
  generalize MQ below (QRo G (ce_X5 G.2.1 a0 S0) out A) args s 0 0 A = Q at fin ⊢
  have go : ∀ (H : Heap) (locs : List Loc), va_P G.1 vwCl (ce_X5 G.2.1 a0 S0) H → va_D A (ce_X5 G.2.1 a0 S0) → va_S A s.heap H locs → ∀ (ls : Array Slot), lv_has ls 1 [(0, .ref a0.1)] → W p l e (headSpec wsX5_madeUp rm_X5_madeUp).room s m args below meth c H locs 0 0 Q (F0 m 0 ls []) := by
    intro H locs hP hD hS ls hl
    refine lv_aload_n hx hb dX5_madeUp_0 rfl (lv_at hl 0 rfl) ?_
    refine va_get (D := G.1) (ci := 5) (v := .ref a0.2.2.1.1) (C := RX5) (T := TX5) (N := 9) hx hb hts hinX5 hown hK hP 0 rfl rfl 1 (by decide) lk0 (fun _ h9 => h9) rfl dX5_madeUp_1 ?_
    obtain ⟨r1, hr1, hf⟩ := ob_bind hf
    have hPc : va_P G.1 vwCl (ce_X4 G.2.1 a0.2.2.1 S0.2.1) H := hP.sub [3, 4, 5, 6, 7, 8, 9, 10, 11, 12, 13, 14] rfl
    have hDc : va_D A (ce_X4 G.2.1 a0.2.2.1 S0.2.1) := hD.sub [3, 4, 5, 6, 7, 8, 9, 10, 11, 12, 13, 14] (by decide) rfl
    have hFc := va_free (wc := ce_X4 G.2.1 a0.2.2.1 S0.2.1) hD hS hA [3, 4, 5, 6, 7, 8, 9, 10, 11, 12, 13, 14] rfl
    refine zc_ro (va_runVN (As := []) (rest := []) ⟨hx, hb, hml, hown, hts⟩ (c_X4_madeUpOnes l G a0.2.2.1 H.size S0.2.1 _ hr1) (⟨va_cnB 0 hts gX5_madeUp_X4_madeUpOnes_n149 rfl rfl rfl (hE.1 _ nw_60) lk1 (by decide +kernel) ⟨Nat.le_of_ble_eq_true rfl, Nat.le_of_ble_eq_true rfl⟩, lk2, lk3⟩) ⟨PcM.blind, va_recv hK hPc (ci := 4) (q0 := 0) rfl rfl, PcM.ok hPc hDc hK hE hS hFc⟩ rfl rfl hl.1 rfl (lv_room (Nat.le_of_ble_eq_true rfl)) dX5_madeUp_4 ⟨Nat.le_refl _, Nat.le_refl _⟩) hP hD hS hA [3, 4, 5, 6, 7, 8, 9, 10, 11, 12, 13, 14] rfl (fun H locs hP hS => ?_)
    exact fin _ _ _ _ _ hf hP hD hS dX5_madeUp_7
  exact go _ _ hP hD hS _ hl
abbrev rm_X5_liars : Room := { frames := 7, cells := 0, slots := 0, locals := 166 }
set_option maxHeartbeats 4000000 in
set_option maxRecDepth 100000 in
theorem c_X5_liars (l : Launch) (G : zG) (a0 : AT_X5) (sz : Nat) (S0 : ST_X5) (out : Int32) (hf : f_X5_liars S0 = some out) : Met l yX5_liars wsX5_liars rm_X5_liars (PcM G (ce_X5 G.2.1 a0 S0) [.ref a0.1] sz) (QRo G (ce_X5 G.2.1 a0 S0) out (va_A (ce_X5 G.2.1 a0 S0) sz)) 0 0 (va_A (ce_X5 G.2.1 a0 S0) sz) := by
  rw [f_X5_liars] at hf
  refine Met.ofW (cc := cX5_liars) (maxL := 6) (ret := (some .int)) (by decide) rfl ?_
  intro p e s m args below meth c s₁ B hml hv
  obtain ⟨hargs, hsz, hP, hK, hD0, hE⟩ := hv
  have hx := B.exec
  have hb := B.bytes
  have hr := B.returns
  have hts := atoms_spec (ws := wsX5_liars) B.pre
  have hown : s.vm.findClass RX5 = some m.cls := findClass_of_methodNamed B.named
  have hlocks := B.notSynchronized
  subst hsz
  have hD := hD0.self (sz := s.heap.size)
  generalize hAe : va_A (ce_X5 G.2.1 a0 S0) s.heap.size = A at hD hE ⊢
  have hA : ∀ q : Nat, s.heap.size ≤ q → A q := fun q h => by rw [← hAe]; exact Or.inr h
  have hS : va_S A s.heap s.heap [] := va_S.rf
  have hl := lv_entry ([.ref a0.1]) (n := 6) (Nat.le_of_ble_eq_true rfl)
  have hent : entryFrame m args 6 = F0 m 0 ((lg_sl ([.ref a0.1]) ++ List.replicate (6 - (lg_sl ([.ref a0.1])).length) Slot.unset).toArray) [] := by rw [hargs, lg_entry_eq]
  rw [hent]
  clear hent
  generalize (lg_sl ([.ref a0.1]) ++ List.replicate (6 - (lg_sl ([.ref a0.1])).length) Slot.unset).toArray = ls at hl ⊢
  have hl : lv_has ls 6 [(0, .ref a0.1)] := hl
  have lk0 := hts (Cond.fieldLink RX5 19 "EnginesOnList" "now" "LEnginesOnList$World;") (List.mem_of_getElem? (i := 1) rfl)
  have lk1 := va_Nw.use (A := args) rfl (hE.1 _ nw_15)
  have lk2 := hts (Cond.initialized RX0) (List.mem_of_getElem? (i := 13) rfl)
  have lk3 := hts (Cond.instanceMethod yX0_readBy) (List.mem_of_getElem? (i := 51) rfl)
  have lk4 := hts (Cond.selects RX0 yX0_readBy yX0_readBy) (List.mem_of_getElem? (i := 52) rfl)
  have lk5 := hts (Cond.initialized RX4) (List.mem_of_getElem? (i := 3) rfl)
  have lk6 := hts (Cond.instanceMethod yX4_madeUpOnes) (List.mem_of_getElem? (i := 2) rfl)
  have lk7 := hts (Cond.selects RX4 yX4_madeUpOnes yX4_madeUpOnes) (List.mem_of_getElem? (i := 4) rfl)
  have hinX5 : ∀ w ∈ wsX50, w ∈ wsX5_liars := by decide +kernel
  have hinX4 : ∀ w ∈ wsX40, w ∈ wsX5_liars := by decide +kernel
  have fin : ∀ (pc : Nat) (v : Int32) (H : Heap) (locs : List Loc) (ls : Array Slot), some v = some out → va_P G.1 vwCl (ce_X5 G.2.1 a0 S0) H → va_D A (ce_X5 G.2.1 a0 S0) → va_S A s.heap H locs → decode cX5_liars pc = .ok (.ireturn, 1) → W p l e (headSpec wsX5_liars rm_X5_liars).room s m args below meth c H locs 0 0 (MQ below (QRo G (ce_X5 G.2.1 a0 S0) out A) args s 0 0 A) (F0 m pc ls [.int v]) := fun pc v H locs ls ho hP hD hS hd => W.iret (v := v) hx hb hr (fun t ht hW => ⟨⟨v, (), rfl, Option.some.inj ho, by first | (rw [ht]; exact hP) | (dsimp only; rw [ht]; exact hP)⟩, hS.F ht⟩) hS.2.2 hd
  generalize MQ below (QRo G (ce_X5 G.2.1 a0 S0) out A) args s 0 0 A = Q at fin ⊢
  have blk15 : ∀ (fu15 : Nat), ∀ (v1 : Int32) (v2 : Int32) (v3 : Int32) (v4 : Int32), f_X5_liars_b15 S0 fu15 v1 v2 v3 v4 = some out → ∀ (H : Heap) (locs : List Loc), va_P G.1 vwCl (ce_X5 G.2.1 a0 S0) H → va_D A (ce_X5 G.2.1 a0 S0) → va_S A s.heap H locs → ∀ (ls : Array Slot), lv_has ls 6 [(0, .ref a0.1), (1, .int v1), (2, .int v2), (3, .int v3), (4, .int v4)] → W p l e (headSpec wsX5_liars rm_X5_liars).room s m args below meth c H locs 0 0 Q (F0 m 15 ls []) := by
    intro fu15
    induction fu15 with
    | zero => intro v1 v2 v3 v4 hf; exact ob_none hf
    | succ fu15 ih15 =>
      intro v1 v2 v3 v4 hf H locs hP hD hS ls hl
      rw [f_X5_liars_b15] at hf
      have blk64 : ∀ (v1 : Int32) (v2 : Int32) (v3 : Int32) (v4 : Int32), f_X5_liars_b64 S0 (f_X5_liars_b15 S0 fu15) v1 v2 v3 v4 = some out → ∀ (H : Heap) (locs : List Loc), va_P G.1 vwCl (ce_X5 G.2.1 a0 S0) H → va_D A (ce_X5 G.2.1 a0 S0) → va_S A s.heap H locs → ∀ (ls : Array Slot), lv_has ls 6 [(0, .ref a0.1), (1, .int v1), (2, .int v2), (3, .int v3), (4, .int v4)] → W p l e (headSpec wsX5_liars rm_X5_liars).room s m args below meth c H locs 0 0 Q (F0 m 64 ls []) := by
        intro v1 v2 v3 v4 hf H locs hP hD hS ls hl
        rw [f_X5_liars_b64] at hf
        refine lv_iinc (v := v4 + 1) (lv' := [(4, .int (v4 + 1)), (0, .ref a0.1), (1, .int v1), (2, .int v2), (3, .int v3)]) hx hb dX5_liars_64 hl (k := 4) rfl rfl (by decide) rfl (fun ls hl => ?_)
        refine lv_goto (tgt := 15) hx hb dX5_liars_67 (by decide) ?_
        exact ih15 _ _ _ _ hf _ _ hP hD hS _ (lv_sub hl [1, 2, 3, 4, 0] rfl)
      have blk51 : ∀ (v1 : Int32) (v2 : Int32) (v3 : Int32) (v4 : Int32) (v5 : Int32), f_X5_liars_b51 S0 (f_X5_liars_b15 S0 fu15) v1 v2 v3 v4 v5 = some out → ∀ (H : Heap) (locs : List Loc), va_P G.1 vwCl (ce_X5 G.2.1 a0 S0) H → va_D A (ce_X5 G.2.1 a0 S0) → va_S A s.heap H locs → ∀ (ls : Array Slot), lv_has ls 6 [(0, .ref a0.1), (1, .int v1), (2, .int v2), (3, .int v3), (4, .int v4), (5, .int v5)] → W p l e (headSpec wsX5_liars rm_X5_liars).room s m args below meth c H locs 0 0 Q (F0 m 51 ls []) := by
        intro v1 v2 v3 v4 v5 hf H locs hP hD hS ls hl
        rw [f_X5_liars_b51] at hf
        refine lv_iload hx hb dX5_liars_51 (lv_at hl 5 rfl) ?_
        refine lv_iload_n hx hb dX5_liars_53 rfl (lv_at hl 2 rfl) ?_
        refine lv_icmp_ne (tgt := 64) hx hb dX5_liars_54 (by decide) (fun c1 => ?_) (fun c1 => ?_)
        · replace hf := ob_neg c1 hf
          exact blk64 _ _ _ _ hf _ _ hP hD hS _ (lv_sub hl [0, 1, 2, 3, 4] rfl)
        · replace hf := ob_pos c1 hf
          refine lv_iload_n hx hb dX5_liars_57 rfl (lv_at hl 3 rfl) ?_
          refine lv_iconst (v := 1) hx hb dX5_liars_58 (by decide) ?_
          refine lv_iload hx hb dX5_liars_59 (lv_at hl 4 rfl) ?_
          refine lv_ishl hx hb dX5_liars_61 ?_
          refine lv_ior hx hb dX5_liars_62 ?_
          refine lv_istore_n (lv' := [(3, .int (v3 ||| (1 <<< (v4 &&& 31)))), (0, .ref a0.1), (1, .int v1), (2, .int v2), (4, .int v4), (5, .int v5)]) hx hb dX5_liars_63 rfl hl (by decide) rfl (fun ls hl => ?_)
          exact blk64 _ _ _ _ hf _ _ hP hD hS _ (lv_sub hl [1, 2, 3, 0, 4] rfl)
      refine lv_iload hx hb dX5_liars_15 (lv_at hl 4 rfl) ?_
      refine lv_iconst (v := 4) hx hb dX5_liars_17 (by decide) ?_
      refine lv_icmp_ge (tgt := 70) hx hb dX5_liars_18 (by decide) (fun c2 => ?_) (fun c2 => ?_)
      · replace hf := ob_pos c2 hf
        refine lv_iload_n hx hb dX5_liars_70 rfl (lv_at hl 3 rfl) ?_
        exact fin _ _ _ _ _ hf hP hD hS dX5_liars_71
      · replace hf := ob_neg c2 hf
        refine lv_iload_n hx hb dX5_liars_21 rfl (lv_at hl 1 rfl) ?_
        refine lv_aload_n hx hb dX5_liars_22 rfl (lv_at hl 0 rfl) ?_
        refine va_get (D := G.1) (ci := 5) (v := .ref a0.2.2.1.1) (C := RX5) (T := TX5) (N := 9) hx hb hts hinX5 hown hK hP 0 rfl rfl 1 (by decide) lk0 (fun _ h9 => h9) rfl dX5_liars_23 ?_
        refine va_getN (D := G.1) (ci := 4) (v := .ref a0.2.2.1.2.2.1) (C := RX4) (T := TX4) (N := 3) hx hb hts hinX4 hown hK hP 3 rfl rfl 1 (by decide) lk1 (fun _ h9 => h9) rfl dX5_liars_26 ?_
        refine lv_iload hx hb dX5_liars_29 (lv_at hl 4 rfl) ?_
        obtain ⟨r3, hr3, hf⟩ := ob_bind hf
        have hPc : va_P G.1 vwCl (ce_X0 G.2.1 a0.2.2.1.2.2 S0.2.1.2.1) H := hP.sub [10, 11, 12, 13, 14] rfl
        have hDc : va_D A (ce_X0 G.2.1 a0.2.2.1.2.2 S0.2.1.2.1) := hD.sub [10, 11, 12, 13, 14] (by decide) rfl
        have hFc := va_free (wc := ce_X0 G.2.1 a0.2.2.1.2.2 S0.2.1.2.1) hD hS hA [10, 11, 12, 13, 14] rfl
        refine zc_ro (va_runVN (As := [.int v4]) (rest := [.int v1]) ⟨hx, hb, hml, hown, hts⟩ (c_X0_readBy l G a0.2.2.1.2.2 H.size S0.2.1.2.1 v4 _ hr3) (⟨va_cnB 1 hts gX5_liars_X0_readBy_n152 rfl rfl rfl (hE.1 _ nw_61) lk2 (by decide +kernel) ⟨Nat.le_of_ble_eq_true rfl, Nat.le_of_ble_eq_true rfl⟩, lk3, lk4⟩) ⟨PcM.blind, va_recv hK hPc (ci := 0) (q0 := 0) rfl rfl, PcM.ok hPc hDc hK hE hS hFc⟩ rfl rfl hl.1 rfl (lv_room (Nat.le_of_ble_eq_true rfl)) dX5_liars_31 ⟨Nat.le_refl _, Nat.le_refl _⟩) hP hD hS hA [10, 11, 12, 13, 14] rfl (fun H locs hP hS => ?_)
        refine lv_iand hx hb dX5_liars_34 ?_
        obtain ⟨r4, hr4, hf⟩ := ob_bind hf
        have hPc : va_P G.1 vwCl (([] : va_W)) H := hP.sub [] rfl
        have hDc : va_D A (([] : va_W)) := hD.sub [] (by decide) rfl
        have hFc := va_free (wc := ([] : va_W)) hD hS hA [] rfl
        refine zc_ro (va_runS (As := [.int (v1 &&& r3)]) (rest := []) ⟨hx, hb, hml, hown, hts⟩ (c_J6_bitCount_0f7a4 l G H.size (v1 &&& r3) _ hr4) (va_cwS 1 hts gX5_liars_J6_bitCount_0f7a4 rfl rfl rfl (by decide +kernel) ⟨Nat.le_of_ble_eq_true rfl, Nat.le_of_ble_eq_true rfl⟩) ⟨PcM.blind, PcM.ok hPc hDc hK hE hS hFc⟩ rfl rfl hl.1 rfl (lv_room (Nat.le_of_ble_eq_true rfl)) dX5_liars_35 ⟨Nat.le_refl _, Nat.le_refl _⟩) hP hD hS hA [] rfl (fun H locs hP hS => ?_)
        refine lv_istore (lv' := [(5, .int r4), (0, .ref a0.1), (1, .int v1), (2, .int v2), (3, .int v3), (4, .int v4)]) hx hb dX5_liars_38 hl (by decide) rfl (fun ls hl => ?_)
        refine lv_iload hx hb dX5_liars_40 (lv_at hl 0 rfl) ?_
        refine lv_iload_n hx hb dX5_liars_42 rfl (lv_at hl 3 rfl) ?_
        refine lv_icmp_le (tgt := 51) hx hb dX5_liars_43 (by decide) (fun c5 => ?_) (fun c5 => ?_)
        · replace hf := ob_pos c5 hf
          exact blk51 _ _ _ _ _ hf _ _ hP hD hS _ (lv_sub hl [1, 2, 3, 4, 5, 0] rfl)
        · replace hf := ob_neg c5 hf
          refine lv_iload hx hb dX5_liars_46 (lv_at hl 0 rfl) ?_
          refine lv_istore_n (lv' := [(2, .int r4), (5, .int r4), (0, .ref a0.1), (1, .int v1), (3, .int v3), (4, .int v4)]) hx hb dX5_liars_48 rfl hl (by decide) rfl (fun ls hl => ?_)
          refine lv_iconst (v := 0) hx hb dX5_liars_49 (by decide) ?_
          refine lv_istore_n (lv' := [(3, .int 0), (2, .int r4), (5, .int r4), (0, .ref a0.1), (1, .int v1), (4, .int v4)]) hx hb dX5_liars_50 rfl hl (by decide) rfl (fun ls hl => ?_)
          exact blk51 _ _ _ _ _ hf _ _ hP hD hS _ (lv_sub hl [3, 4, 1, 0, 5, 2] rfl)
  have go : ∀ (H : Heap) (locs : List Loc), va_P G.1 vwCl (ce_X5 G.2.1 a0 S0) H → va_D A (ce_X5 G.2.1 a0 S0) → va_S A s.heap H locs → ∀ (ls : Array Slot), lv_has ls 6 [(0, .ref a0.1)] → W p l e (headSpec wsX5_liars rm_X5_liars).room s m args below meth c H locs 0 0 Q (F0 m 0 ls []) := by
    intro H locs hP hD hS ls hl
    refine lv_aload_n hx hb dX5_liars_0 rfl (lv_at hl 0 rfl) ?_
    refine va_get (D := G.1) (ci := 5) (v := .ref a0.2.2.1.1) (C := RX5) (T := TX5) (N := 9) hx hb hts hinX5 hown hK hP 0 rfl rfl 1 (by decide) lk0 (fun _ h9 => h9) rfl dX5_liars_1 ?_
    obtain ⟨r6, hr6, hf⟩ := ob_bind hf
    have hPc : va_P G.1 vwCl (ce_X4 G.2.1 a0.2.2.1 S0.2.1) H := hP.sub [3, 4, 5, 6, 7, 8, 9, 10, 11, 12, 13, 14] rfl
    have hDc : va_D A (ce_X4 G.2.1 a0.2.2.1 S0.2.1) := hD.sub [3, 4, 5, 6, 7, 8, 9, 10, 11, 12, 13, 14] (by decide) rfl
    have hFc := va_free (wc := ce_X4 G.2.1 a0.2.2.1 S0.2.1) hD hS hA [3, 4, 5, 6, 7, 8, 9, 10, 11, 12, 13, 14] rfl
    refine zc_ro (va_runVN (As := []) (rest := []) ⟨hx, hb, hml, hown, hts⟩ (c_X4_madeUpOnes l G a0.2.2.1 H.size S0.2.1 _ hr6) (⟨va_cnB 0 hts gX5_liars_X4_madeUpOnes_n149 rfl rfl rfl (hE.1 _ nw_60) lk5 (by decide +kernel) ⟨Nat.le_of_ble_eq_true rfl, Nat.le_of_ble_eq_true rfl⟩, lk6, lk7⟩) ⟨PcM.blind, va_recv hK hPc (ci := 4) (q0 := 0) rfl rfl, PcM.ok hPc hDc hK hE hS hFc⟩ rfl rfl hl.1 rfl (lv_room (Nat.le_of_ble_eq_true rfl)) dX5_liars_4 ⟨Nat.le_refl _, Nat.le_refl _⟩) hP hD hS hA [3, 4, 5, 6, 7, 8, 9, 10, 11, 12, 13, 14] rfl (fun H locs hP hS => ?_)
    refine lv_istore_n (lv' := [(1, .int r6), (0, .ref a0.1)]) hx hb dX5_liars_7 rfl hl (by decide) rfl (fun ls hl => ?_)
    refine lv_iconst (v := 1) hx hb dX5_liars_8 (by decide) ?_
    refine lv_istore_n (lv' := [(2, .int 1), (1, .int r6), (0, .ref a0.1)]) hx hb dX5_liars_9 rfl hl (by decide) rfl (fun ls hl => ?_)
    refine lv_iconst (v := 0) hx hb dX5_liars_10 (by decide) ?_
    refine lv_istore_n (lv' := [(3, .int 0), (2, .int 1), (1, .int r6), (0, .ref a0.1)]) hx hb dX5_liars_11 rfl hl (by decide) rfl (fun ls hl => ?_)
    refine lv_iconst (v := 0) hx hb dX5_liars_12 (by decide) ?_
    refine lv_istore (lv' := [(4, .int 0), (3, .int 0), (2, .int 1), (1, .int r6), (0, .ref a0.1)]) hx hb dX5_liars_13 hl (by decide) rfl (fun ls hl => ?_)
    exact blk15 4096 _ _ _ _ hf _ _ hP hD hS _ (lv_sub hl [4, 3, 2, 1, 0] rfl)
  exact go _ _ hP hD hS _ hl
abbrev rm_X5_clash : Room := { frames := 3, cells := 0, slots := 0, locals := 67 }
set_option maxHeartbeats 4000000 in
set_option maxRecDepth 100000 in
theorem c_X5_clash (l : Launch) (G : zG) (a0 : AT_X5) (sz : Nat) (S0 : ST_X5) (p1 : Int32) (out : Int32 × ST_X5) (hf : f_X5_clash S0 p1 = some out) : Met l yX5_clash wsX5_clash rm_X5_clash (PcM G (ce_X5 G.2.1 a0 S0) [.ref a0.1, .int p1] sz) (QWr G (fun u => ce_X5 G.2.1 a0 u) out (va_A (ce_X5 G.2.1 a0 S0) sz)) 0 0 (va_A (ce_X5 G.2.1 a0 S0) sz) := by
  rw [f_X5_clash] at hf
  refine Met.ofW (cc := cX5_clash) (maxL := 5) (ret := (some .int)) (by decide) rfl ?_
  intro p e s m args below meth c s₁ B hml hv
  obtain ⟨hargs, hsz, hP, hK, hD0, hE⟩ := hv
  have hx := B.exec
  have hb := B.bytes
  have hr := B.returns
  have hts := atoms_spec (ws := wsX5_clash) B.pre
  have hown : s.vm.findClass RX5 = some m.cls := findClass_of_methodNamed B.named
  have hlocks := B.notSynchronized
  subst hsz
  have hD := hD0.self (sz := s.heap.size)
  generalize hAe : va_A (ce_X5 G.2.1 a0 S0) s.heap.size = A at hD hE ⊢
  have hA : ∀ q : Nat, s.heap.size ≤ q → A q := fun q h => by rw [← hAe]; exact Or.inr h
  have hS : va_S A s.heap s.heap [] := va_S.rf
  have hl := lv_entry ([.ref a0.1, .int p1]) (n := 5) (Nat.le_of_ble_eq_true rfl)
  have hent : entryFrame m args 5 = F0 m 0 ((lg_sl ([.ref a0.1, .int p1]) ++ List.replicate (5 - (lg_sl ([.ref a0.1, .int p1])).length) Slot.unset).toArray) [] := by rw [hargs, lg_entry_eq]
  rw [hent]
  clear hent
  generalize (lg_sl ([.ref a0.1, .int p1]) ++ List.replicate (5 - (lg_sl ([.ref a0.1, .int p1])).length) Slot.unset).toArray = ls at hl ⊢
  have hl : lv_has ls 5 [(0, .ref a0.1), (1, .int p1)] := hl
  have lk0 := hts (Cond.fieldLink RX5 19 "EnginesOnList" "now" "LEnginesOnList$World;") (List.mem_of_getElem? (i := 1) rfl)
  have lk1 := va_Nw.use (A := args) rfl (hE.1 _ nw_15)
  have lk2 := va_Nw.use (A := args) rfl (hE.1 _ nw_12)
  have lk3 := hts (Cond.initialized RX0) (List.mem_of_getElem? (i := 9) rfl)
  have lk4 := hts (Cond.instanceMethod yX0_cannotBothBe) (List.mem_of_getElem? (i := 8) rfl)
  have lk5 := hts (Cond.selects RX0 yX0_cannotBothBe yX0_cannotBothBe) (List.mem_of_getElem? (i := 10) rfl)
  have hinX5 : ∀ w ∈ wsX50, w ∈ wsX5_clash := by decide +kernel
  have hinX4 : ∀ w ∈ wsX40, w ∈ wsX5_clash := by decide +kernel
  have hinX0 : ∀ w ∈ wsX00, w ∈ wsX5_clash := by decide +kernel
  have fin : ∀ (pc : Nat) (v : Int32) (u : ST_X5) (H : Heap) (locs : List Loc) (ls : Array Slot), some (v, u) = some out → va_P G.1 vwCl (ce_X5 G.2.1 a0 u) H → va_D A (ce_X5 G.2.1 a0 u) → va_S A s.heap H locs → decode cX5_clash pc = .ok (.ireturn, 1) → W p l e (headSpec wsX5_clash rm_X5_clash).room s m args below meth c H locs 0 0 (MQ below (QWr G (fun u => ce_X5 G.2.1 a0 u) out A) args s 0 0 A) (F0 m pc ls [.int v]) := fun pc v u H locs ls ho hP hD hS hd => W.iret (v := v) hx hb hr (fun t ht hW => ⟨⟨v, u, rfl, ob_pair ho, by first | (rw [ht]; exact hP) | (dsimp only; rw [ht]; exact hP), hD⟩, hS.F ht⟩) hS.2.2 hd
  generalize MQ below (QWr G (fun u => ce_X5 G.2.1 a0 u) out A) args s 0 0 A = Q at fin ⊢
  have blk9 : ∀ (S0 : ST_X5), f_X5_clash_b9 S0 = some out → ∀ (H : Heap) (locs : List Loc), va_P G.1 vwCl (ce_X5 G.2.1 a0 S0) H → va_D A (ce_X5 G.2.1 a0 S0) → va_S A s.heap H locs → ∀ (ls : Array Slot), lv_has ls 5 [(0, .ref a0.1)] → W p l e (headSpec wsX5_clash rm_X5_clash).room s m args below meth c H locs 0 0 Q (F0 m 9 ls []) := by
    intro S0 hf H locs hP hD hS ls hl
    rw [f_X5_clash_b9] at hf
    refine lv_aload_n hx hb dX5_clash_9 rfl (lv_at hl 0 rfl) ?_
    refine lv_bipush (v := (-2)) hx hb dX5_clash_10 (by decide) ?_
    obtain ⟨r1, hr1, hf⟩ := ob_bind hf
    have hFc := va_free (wc := ce_X5 G.2.1 a0 S0) hD hS hA [0, 1, 2, 3, 4, 5, 6, 7, 8, 9, 10, 11, 12, 13, 14, 15, 16, 17, 18, 19, 20, 21, 22, 23, 24, 25, 26, 27, 28, 29, 30, 31, 32, 33, 34, 35, 36, 37, 38] rfl
    refine zc_wr (cf := (fun u => ce_X5 G.2.1 a0 u)) (ws' := ce_X5 G.2.1 a0 r1.2) (va_runV (As := [.int (-2)]) (rest := []) ⟨hx, hb, hml, hown, hts⟩ (c_X5_refuse l G a0 H.size S0 (-2) _ hr1) (cwV 1 hts gX5_clash_X5_refuse rfl rfl rfl (by decide +kernel) ⟨Nat.le_of_ble_eq_true rfl, Nat.le_of_ble_eq_true rfl⟩) ⟨PcM.blind, va_recv hK hP (ci := 5) (q0 := 0) rfl rfl, PcM.ok hP hD hK hE hS hFc⟩ rfl rfl hl.1 rfl (lv_room (Nat.le_of_ble_eq_true rfl)) dX5_clash_12 ⟨Nat.le_refl _, Nat.le_refl _⟩) hP hD hS hA [0, 1, 2, 3, 4, 5, 6, 7, 8, 9, 10, 11, 12, 13, 14, 15, 16, 17, 18, 19, 20, 21, 22, 23, 24, 25, 26, 27, 28, 29, 30, 31, 32, 33, 34, 35, 36, 37, 38] [] [0, 1, 2, 3, 4, 5, 6, 7, 8, 9, 10, 11, 12, 13, 14, 15, 16, 17, 18, 19, 20, 21, 22, 23, 24, 25, 26, 27, 28, 29, 30, 31, 32, 33, 34, 35, 36, 37, 38] rfl rfl (by decide) (by decide) (by decide) rfl (fun H locs hP hD hS => ?_)
    exact fin _ _ _ _ _ _ hf hP hD hS dX5_clash_15
  have blk20 : ∀ (fu20 : Nat), ∀ (S0 : ST_X5) (v1 : Int32) (v2 : Int32) (v3 : Int32), f_X5_clash_b20 fu20 S0 v1 v2 v3 = some out → ∀ (H : Heap) (locs : List Loc), va_P G.1 vwCl (ce_X5 G.2.1 a0 S0) H → va_D A (ce_X5 G.2.1 a0 S0) → va_S A s.heap H locs → ∀ (ls : Array Slot), lv_has ls 5 [(0, .ref a0.1), (1, .int v1), (2, .int v2), (3, .int v3)] → W p l e (headSpec wsX5_clash rm_X5_clash).room s m args below meth c H locs 0 0 Q (F0 m 20 ls []) := by
    intro fu20
    induction fu20 with
    | zero => intro S0 v1 v2 v3 hf; exact ob_none hf
    | succ fu20 ih20 =>
      intro S0 v1 v2 v3 hf H locs hP hD hS ls hl
      rw [f_X5_clash_b20] at hf
      have blk39 : ∀ (fu39 : Nat), ∀ (S0 : ST_X5) (v1 : Int32) (v2 : Int32) (v3 : Int32) (v4 : Int32), f_X5_clash_b39 (f_X5_clash_b20 fu20) fu39 S0 v1 v2 v3 v4 = some out → ∀ (H : Heap) (locs : List Loc), va_P G.1 vwCl (ce_X5 G.2.1 a0 S0) H → va_D A (ce_X5 G.2.1 a0 S0) → va_S A s.heap H locs → ∀ (ls : Array Slot), lv_has ls 5 [(0, .ref a0.1), (1, .int v1), (2, .int v2), (3, .int v3), (4, .int v4)] → W p l e (headSpec wsX5_clash rm_X5_clash).room s m args below meth c H locs 0 0 Q (F0 m 39 ls []) := by
        intro fu39
        induction fu39 with
        | zero => intro S0 v1 v2 v3 v4 hf; exact ob_none hf
        | succ fu39 ih39 =>
          intro S0 v1 v2 v3 v4 hf H locs hP hD hS ls hl
          rw [f_X5_clash_b39] at hf
          have blk86 : ∀ (S0 : ST_X5) (v1 : Int32) (v2 : Int32) (v3 : Int32) (v4 : Int32), f_X5_clash_b86 (f_X5_clash_b20 fu20) (f_X5_clash_b39 (f_X5_clash_b20 fu20) fu39) S0 v1 v2 v3 v4 = some out → ∀ (H : Heap) (locs : List Loc), va_P G.1 vwCl (ce_X5 G.2.1 a0 S0) H → va_D A (ce_X5 G.2.1 a0 S0) → va_S A s.heap H locs → ∀ (ls : Array Slot), lv_has ls 5 [(0, .ref a0.1), (1, .int v1), (2, .int v2), (3, .int v3), (4, .int v4)] → W p l e (headSpec wsX5_clash rm_X5_clash).room s m args below meth c H locs 0 0 Q (F0 m 86 ls []) := by
            intro S0 v1 v2 v3 v4 hf H locs hP hD hS ls hl
            rw [f_X5_clash_b86] at hf
            refine lv_iinc (v := v4 + 1) (lv' := [(4, .int (v4 + 1)), (0, .ref a0.1), (1, .int v1), (2, .int v2), (3, .int v3)]) hx hb dX5_clash_86 hl (k := 4) rfl rfl (by decide) rfl (fun ls hl => ?_)
            refine lv_goto (tgt := 39) hx hb dX5_clash_89 (by decide) ?_
            exact ih39 _ _ _ _ _ hf _ _ hP hD hS _ (lv_sub hl [1, 2, 3, 4, 0] rfl)
          refine lv_iload hx hb dX5_clash_39 (lv_at hl 4 rfl) ?_
          refine lv_aload_n hx hb dX5_clash_41 rfl (lv_at hl 0 rfl) ?_
          refine va_get (D := G.1) (ci := 5) (v := .ref a0.2.2.1.1) (C := RX5) (T := TX5) (N := 9) hx hb hts hinX5 hown hK hP 0 rfl rfl 1 (by decide) lk0 (fun _ h9 => h9) rfl dX5_clash_42 ?_
          refine va_getN (D := G.1) (ci := 4) (v := .ref a0.2.2.1.2.2.1) (C := RX4) (T := TX4) (N := 3) hx hb hts hinX4 hown hK hP 3 rfl rfl 1 (by decide) lk1 (fun _ h9 => h9) rfl dX5_clash_45 ?_
          refine va_getN (D := G.1) (ci := 0) (v := .int S0.2.1.2.1.2.2.2.2) (C := RX0) (T := TX0) (N := 5) hx hb hts hinX0 hown hK hP 10 rfl rfl 4 (by decide) lk2 (fun _ h9 => h9) rfl dX5_clash_48 ?_
          refine lv_icmp_ge (tgt := 92) hx hb dX5_clash_51 (by decide) (fun c2 => ?_) (fun c2 => ?_)
          · replace hf := ob_pos c2 hf
            refine lv_iinc (v := v3 + 1) (lv' := [(3, .int (v3 + 1)), (0, .ref a0.1), (1, .int v1), (2, .int v2), (4, .int v4)]) hx hb dX5_clash_92 hl (k := 3) rfl rfl (by decide) rfl (fun ls hl => ?_)
            refine lv_goto (tgt := 20) hx hb dX5_clash_95 (by decide) ?_
            exact ih20 _ _ _ _ hf _ _ hP hD hS _ (lv_sub hl [1, 2, 3, 0] rfl)
          · replace hf := ob_neg c2 hf
            refine lv_aload_n hx hb dX5_clash_54 rfl (lv_at hl 0 rfl) ?_
            refine va_get (D := G.1) (ci := 5) (v := .ref a0.2.2.1.1) (C := RX5) (T := TX5) (N := 9) hx hb hts hinX5 hown hK hP 0 rfl rfl 1 (by decide) lk0 (fun _ h9 => h9) rfl dX5_clash_55 ?_
            refine va_getN (D := G.1) (ci := 4) (v := .ref a0.2.2.1.2.2.1) (C := RX4) (T := TX4) (N := 3) hx hb hts hinX4 hown hK hP 3 rfl rfl 1 (by decide) lk1 (fun _ h9 => h9) rfl dX5_clash_58 ?_
            refine lv_iload_n hx hb dX5_clash_61 rfl (lv_at hl 3 rfl) ?_
            refine lv_iload hx hb dX5_clash_62 (lv_at hl 4 rfl) ?_
            obtain ⟨r3, hr3, hf⟩ := ob_bind hf
            have hPc : va_P G.1 vwCl (ce_X0 G.2.1 a0.2.2.1.2.2 S0.2.1.2.1) H := hP.sub [10, 11, 12, 13, 14] rfl
            have hDc : va_D A (ce_X0 G.2.1 a0.2.2.1.2.2 S0.2.1.2.1) := hD.sub [10, 11, 12, 13, 14] (by decide) rfl
            have hFc := va_free (wc := ce_X0 G.2.1 a0.2.2.1.2.2 S0.2.1.2.1) hD hS hA [10, 11, 12, 13, 14] rfl
            refine zc_ro (va_runVN (As := [.int v3, .int v4]) (rest := []) ⟨hx, hb, hml, hown, hts⟩ (c_X0_cannotBothBe l G a0.2.2.1.2.2 H.size S0.2.1.2.1 v3 v4 _ hr3) (⟨va_cnB 2 hts gX5_clash_X0_cannotBothBe_n160 rfl rfl rfl (hE.1 _ nw_62) lk3 (by decide +kernel) ⟨Nat.le_of_ble_eq_true rfl, Nat.le_of_ble_eq_true rfl⟩, lk4, lk5⟩) ⟨PcM.blind, va_recv hK hPc (ci := 0) (q0 := 0) rfl rfl, PcM.ok hPc hDc hK hE hS hFc⟩ rfl rfl hl.1 rfl (lv_room (Nat.le_of_ble_eq_true rfl)) dX5_clash_64 ⟨Nat.le_refl _, Nat.le_refl _⟩) hP hD hS hA [10, 11, 12, 13, 14] rfl (fun H locs hP hS => ?_)
            refine lv_if_eq (tgt := 86) hx hb dX5_clash_67 (by decide) (fun c4 => ?_) (fun c4 => ?_)
            · replace hf := ob_pos c4 hf
              exact blk86 _ _ _ _ _ hf _ _ hP hD hS _ (lv_sub hl [0, 1, 2, 3, 4] rfl)
            · replace hf := ob_neg c4 hf
              refine lv_iload_n hx hb dX5_clash_70 rfl (lv_at hl 1 rfl) ?_
              refine lv_iconst (v := 1) hx hb dX5_clash_71 (by decide) ?_
              refine lv_icmp_ne (tgt := 83) hx hb dX5_clash_72 (by decide) (fun c5 => ?_) (fun c5 => ?_)
              · replace hf := ob_neg c5 hf
                refine lv_iinc (v := v2 + 1) (lv' := [(2, .int (v2 + 1)), (0, .ref a0.1), (1, .int v1), (3, .int v3), (4, .int v4)]) hx hb dX5_clash_83 hl (k := 2) rfl rfl (by decide) rfl (fun ls hl => ?_)
                exact blk86 _ _ _ _ _ hf _ _ hP hD hS _ (lv_sub hl [1, 2, 0, 3, 4] rfl)
              · replace hf := ob_pos c5 hf
                refine lv_bipush (v := 12) hx hb dX5_clash_75 (by decide) ?_
                refine lv_iload_n hx hb dX5_clash_77 rfl (lv_at hl 3 rfl) ?_
                refine lv_imul hx hb dX5_clash_78 ?_
                refine lv_iload hx hb dX5_clash_79 (lv_at hl 4 rfl) ?_
                refine lv_iadd hx hb dX5_clash_81 ?_
                exact fin _ _ _ _ _ _ hf hP hD hS dX5_clash_82
      refine lv_iload_n hx hb dX5_clash_20 rfl (lv_at hl 3 rfl) ?_
      refine lv_aload_n hx hb dX5_clash_21 rfl (lv_at hl 0 rfl) ?_
      refine va_get (D := G.1) (ci := 5) (v := .ref a0.2.2.1.1) (C := RX5) (T := TX5) (N := 9) hx hb hts hinX5 hown hK hP 0 rfl rfl 1 (by decide) lk0 (fun _ h9 => h9) rfl dX5_clash_22 ?_
      refine va_getN (D := G.1) (ci := 4) (v := .ref a0.2.2.1.2.2.1) (C := RX4) (T := TX4) (N := 3) hx hb hts hinX4 hown hK hP 3 rfl rfl 1 (by decide) lk1 (fun _ h9 => h9) rfl dX5_clash_25 ?_
      refine va_getN (D := G.1) (ci := 0) (v := .int S0.2.1.2.1.2.2.2.2) (C := RX0) (T := TX0) (N := 5) hx hb hts hinX0 hown hK hP 10 rfl rfl 4 (by decide) lk2 (fun _ h9 => h9) rfl dX5_clash_28 ?_
      refine lv_icmp_ge (tgt := 98) hx hb dX5_clash_31 (by decide) (fun c6 => ?_) (fun c6 => ?_)
      · replace hf := ob_pos c6 hf
        refine lv_iload_n hx hb dX5_clash_98 rfl (lv_at hl 1 rfl) ?_
        refine lv_iconst (v := 1) hx hb dX5_clash_99 (by decide) ?_
        refine lv_icmp_ne (tgt := 108) hx hb dX5_clash_100 (by decide) (fun c7 => ?_) (fun c7 => ?_)
        · replace hf := ob_neg c7 hf
          refine lv_iload_n hx hb dX5_clash_108 rfl (lv_at hl 2 rfl) ?_
          exact fin _ _ _ _ _ _ hf hP hD hS dX5_clash_109
        · replace hf := ob_pos c7 hf
          refine lv_bipush (v := (-9)) hx hb dX5_clash_103 (by decide) ?_
          refine lv_goto (tgt := 109) hx hb dX5_clash_105 (by decide) ?_
          exact fin _ _ _ _ _ _ hf hP hD hS dX5_clash_109
      · replace hf := ob_neg c6 hf
        refine lv_iload_n hx hb dX5_clash_34 rfl (lv_at hl 3 rfl) ?_
        refine lv_iconst (v := 1) hx hb dX5_clash_35 (by decide) ?_
        refine lv_iadd hx hb dX5_clash_36 ?_
        refine lv_istore (lv' := [(4, .int (v3 + 1)), (0, .ref a0.1), (1, .int v1), (2, .int v2), (3, .int v3)]) hx hb dX5_clash_37 hl (by decide) rfl (fun ls hl => ?_)
        exact blk39 4096 _ _ _ _ _ hf _ _ hP hD hS _ (lv_sub hl [1, 2, 3, 4, 0] rfl)
  have go : ∀ (H : Heap) (locs : List Loc), va_P G.1 vwCl (ce_X5 G.2.1 a0 S0) H → va_D A (ce_X5 G.2.1 a0 S0) → va_S A s.heap H locs → ∀ (ls : Array Slot), lv_has ls 5 [(0, .ref a0.1), (1, .int p1)] → W p l e (headSpec wsX5_clash rm_X5_clash).room s m args below meth c H locs 0 0 Q (F0 m 0 ls []) := by
    intro H locs hP hD hS ls hl
    refine lv_iload_n hx hb dX5_clash_0 rfl (lv_at hl 1 rfl) ?_
    refine lv_if_lt (tgt := 9) hx hb dX5_clash_1 (by decide) (fun c8 => ?_) (fun c8 => ?_)
    · replace hf := ob_pos c8 hf
      exact blk9 _ hf _ _ hP hD hS _ (lv_sub hl [0] rfl)
    · replace hf := ob_neg c8 hf
      refine lv_iload_n hx hb dX5_clash_4 rfl (lv_at hl 1 rfl) ?_
      refine lv_iconst (v := 1) hx hb dX5_clash_5 (by decide) ?_
      refine lv_icmp_le (tgt := 16) hx hb dX5_clash_6 (by decide) (fun c9 => ?_) (fun c9 => ?_)
      · replace hf := ob_pos c9 hf
        refine lv_iconst (v := 0) hx hb dX5_clash_16 (by decide) ?_
        refine lv_istore_n (lv' := [(2, .int 0), (0, .ref a0.1), (1, .int p1)]) hx hb dX5_clash_17 rfl hl (by decide) rfl (fun ls hl => ?_)
        refine lv_iconst (v := 0) hx hb dX5_clash_18 (by decide) ?_
        refine lv_istore_n (lv' := [(3, .int 0), (2, .int 0), (0, .ref a0.1), (1, .int p1)]) hx hb dX5_clash_19 rfl hl (by decide) rfl (fun ls hl => ?_)
        exact blk20 4096 _ _ _ _ hf _ _ hP hD hS _ (lv_sub hl [2, 3, 1, 0] rfl)
      · replace hf := ob_neg c9 hf
        exact blk9 _ hf _ _ hP hD hS _ (lv_sub hl [0] rfl)
  exact go _ _ hP hD hS _ hl
abbrev rm_X5_sure : Room := { frames := 6, cells := 0, slots := 0, locals := 144 }
set_option maxHeartbeats 4000000 in
set_option maxRecDepth 100000 in
theorem c_X5_sure (l : Launch) (G : zG) (a0 : AT_X5) (sz : Nat) (S0 : ST_X5) (out : Int32) (hf : f_X5_sure S0 = some out) : Met l yX5_sure wsX5_sure rm_X5_sure (PcM G (ce_X5 G.2.1 a0 S0) [.ref a0.1] sz) (QRo G (ce_X5 G.2.1 a0 S0) out (va_A (ce_X5 G.2.1 a0 S0) sz)) 0 0 (va_A (ce_X5 G.2.1 a0 S0) sz) := by
  rw [f_X5_sure] at hf
  refine Met.ofW (cc := cX5_sure) (maxL := 4) (ret := (some .int)) (by decide) rfl ?_
  intro p e s m args below meth c s₁ B hml hv
  obtain ⟨hargs, hsz, hP, hK, hD0, hE⟩ := hv
  have hx := B.exec
  have hb := B.bytes
  have hr := B.returns
  have hts := atoms_spec (ws := wsX5_sure) B.pre
  have hown : s.vm.findClass RX5 = some m.cls := findClass_of_methodNamed B.named
  have hlocks := B.notSynchronized
  subst hsz
  have hD := hD0.self (sz := s.heap.size)
  generalize hAe : va_A (ce_X5 G.2.1 a0 S0) s.heap.size = A at hD hE ⊢
  have hA : ∀ q : Nat, s.heap.size ≤ q → A q := fun q h => by rw [← hAe]; exact Or.inr h
  have hS : va_S A s.heap s.heap [] := va_S.rf
  have hl := lv_entry ([.ref a0.1]) (n := 4) (Nat.le_of_ble_eq_true rfl)
  have hent : entryFrame m args 4 = F0 m 0 ((lg_sl ([.ref a0.1]) ++ List.replicate (4 - (lg_sl ([.ref a0.1])).length) Slot.unset).toArray) [] := by rw [hargs, lg_entry_eq]
  rw [hent]
  clear hent
  generalize (lg_sl ([.ref a0.1]) ++ List.replicate (4 - (lg_sl ([.ref a0.1])).length) Slot.unset).toArray = ls at hl ⊢
  have hl : lv_has ls 4 [(0, .ref a0.1)] := hl
  have lk0 := hts (Cond.fieldLink RX5 19 "EnginesOnList" "now" "LEnginesOnList$World;") (List.mem_of_getElem? (i := 1) rfl)
  have lk1 := va_Nw.use (A := args) rfl (hE.1 _ nw_15)
  have lk2 := va_Nw.use (A := args) rfl (hE.1 _ nw_12)
  have lk3 := hts (Cond.initialized RX4) (List.mem_of_getElem? (i := 3) rfl)
  have lk4 := hts (Cond.instanceMethod yX4_fittingOnes) (List.mem_of_getElem? (i := 2) rfl)
  have lk5 := hts (Cond.selects RX4 yX4_fittingOnes yX4_fittingOnes) (List.mem_of_getElem? (i := 4) rfl)
  have hinX5 : ∀ w ∈ wsX50, w ∈ wsX5_sure := by decide +kernel
  have hinX4 : ∀ w ∈ wsX40, w ∈ wsX5_sure := by decide +kernel
  have hinX0 : ∀ w ∈ wsX00, w ∈ wsX5_sure := by decide +kernel
  have fin : ∀ (pc : Nat) (v : Int32) (H : Heap) (locs : List Loc) (ls : Array Slot), some v = some out → va_P G.1 vwCl (ce_X5 G.2.1 a0 S0) H → va_D A (ce_X5 G.2.1 a0 S0) → va_S A s.heap H locs → decode cX5_sure pc = .ok (.ireturn, 1) → W p l e (headSpec wsX5_sure rm_X5_sure).room s m args below meth c H locs 0 0 (MQ below (QRo G (ce_X5 G.2.1 a0 S0) out A) args s 0 0 A) (F0 m pc ls [.int v]) := fun pc v H locs ls ho hP hD hS hd => W.iret (v := v) hx hb hr (fun t ht hW => ⟨⟨v, (), rfl, Option.some.inj ho, by first | (rw [ht]; exact hP) | (dsimp only; rw [ht]; exact hP)⟩, hS.F ht⟩) hS.2.2 hd
  generalize MQ below (QRo G (ce_X5 G.2.1 a0 S0) out A) args s 0 0 A = Q at fin ⊢
  have blk4 : ∀ (fu4 : Nat), ∀ (v1 : Int32) (v2 : Int32), f_X5_sure_b4 S0 fu4 v1 v2 = some out → ∀ (H : Heap) (locs : List Loc), va_P G.1 vwCl (ce_X5 G.2.1 a0 S0) H → va_D A (ce_X5 G.2.1 a0 S0) → va_S A s.heap H locs → ∀ (ls : Array Slot), lv_has ls 4 [(0, .ref a0.1), (1, .int v1), (2, .int v2)] → W p l e (headSpec wsX5_sure rm_X5_sure).room s m args below meth c H locs 0 0 Q (F0 m 4 ls []) := by
    intro fu4
    induction fu4 with
    | zero => intro v1 v2 hf; exact ob_none hf
    | succ fu4 ih4 =>
      intro v1 v2 hf H locs hP hD hS ls hl
      rw [f_X5_sure_b4] at hf
      have blk40 : ∀ (v1 : Int32) (v2 : Int32), f_X5_sure_b40 S0 (f_X5_sure_b4 S0 fu4) v1 v2 = some out → ∀ (H : Heap) (locs : List Loc), va_P G.1 vwCl (ce_X5 G.2.1 a0 S0) H → va_D A (ce_X5 G.2.1 a0 S0) → va_S A s.heap H locs → ∀ (ls : Array Slot), lv_has ls 4 [(0, .ref a0.1), (1, .int v1), (2, .int v2)] → W p l e (headSpec wsX5_sure rm_X5_sure).room s m args below meth c H locs 0 0 Q (F0 m 40 ls []) := by
        intro v1 v2 hf H locs hP hD hS ls hl
        rw [f_X5_sure_b40] at hf
        refine lv_iinc (v := v2 + 1) (lv' := [(2, .int (v2 + 1)), (0, .ref a0.1), (1, .int v1)]) hx hb dX5_sure_40 hl (k := 2) rfl rfl (by decide) rfl (fun ls hl => ?_)
        refine lv_goto (tgt := 4) hx hb dX5_sure_43 (by decide) ?_
        exact ih4 _ _ hf _ _ hP hD hS _ (lv_sub hl [1, 2, 0] rfl)
      refine lv_iload_n hx hb dX5_sure_4 rfl (lv_at hl 2 rfl) ?_
      refine lv_aload_n hx hb dX5_sure_5 rfl (lv_at hl 0 rfl) ?_
      refine va_get (D := G.1) (ci := 5) (v := .ref a0.2.2.1.1) (C := RX5) (T := TX5) (N := 9) hx hb hts hinX5 hown hK hP 0 rfl rfl 1 (by decide) lk0 (fun _ h9 => h9) rfl dX5_sure_6 ?_
      refine va_getN (D := G.1) (ci := 4) (v := .ref a0.2.2.1.2.2.1) (C := RX4) (T := TX4) (N := 3) hx hb hts hinX4 hown hK hP 3 rfl rfl 1 (by decide) lk1 (fun _ h9 => h9) rfl dX5_sure_9 ?_
      refine va_getN (D := G.1) (ci := 0) (v := .int S0.2.1.2.1.2.2.2.2) (C := RX0) (T := TX0) (N := 5) hx hb hts hinX0 hown hK hP 10 rfl rfl 4 (by decide) lk2 (fun _ h9 => h9) rfl dX5_sure_12 ?_
      refine lv_icmp_ge (tgt := 46) hx hb dX5_sure_15 (by decide) (fun c1 => ?_) (fun c1 => ?_)
      · replace hf := ob_pos c1 hf
        refine lv_iload_n hx hb dX5_sure_46 rfl (lv_at hl 1 rfl) ?_
        exact fin _ _ _ _ _ hf hP hD hS dX5_sure_47
      · replace hf := ob_neg c1 hf
        refine lv_aload_n hx hb dX5_sure_18 rfl (lv_at hl 0 rfl) ?_
        refine va_get (D := G.1) (ci := 5) (v := .ref a0.2.2.1.1) (C := RX5) (T := TX5) (N := 9) hx hb hts hinX5 hown hK hP 0 rfl rfl 1 (by decide) lk0 (fun _ h9 => h9) rfl dX5_sure_19 ?_
        refine lv_iload_n hx hb dX5_sure_22 rfl (lv_at hl 2 rfl) ?_
        refine lv_iconst (v := 0) hx hb dX5_sure_23 (by decide) ?_
        obtain ⟨r2, hr2, hf⟩ := ob_bind hf
        have hPc : va_P G.1 vwCl (ce_X4 G.2.1 a0.2.2.1 S0.2.1) H := hP.sub [3, 4, 5, 6, 7, 8, 9, 10, 11, 12, 13, 14] rfl
        have hDc : va_D A (ce_X4 G.2.1 a0.2.2.1 S0.2.1) := hD.sub [3, 4, 5, 6, 7, 8, 9, 10, 11, 12, 13, 14] (by decide) rfl
        have hFc := va_free (wc := ce_X4 G.2.1 a0.2.2.1 S0.2.1) hD hS hA [3, 4, 5, 6, 7, 8, 9, 10, 11, 12, 13, 14] rfl
        refine zc_ro (va_runVN (As := [.int v2, .int 0]) (rest := []) ⟨hx, hb, hml, hown, hts⟩ (c_X4_fittingOnes l G a0.2.2.1 H.size S0.2.1 v2 0 _ hr2) (⟨va_cnB 2 hts gX5_sure_X4_fittingOnes_n145 rfl rfl rfl (hE.1 _ nw_57) lk3 (by decide +kernel) ⟨Nat.le_of_ble_eq_true rfl, Nat.le_of_ble_eq_true rfl⟩, lk4, lk5⟩) ⟨PcM.blind, va_recv hK hPc (ci := 4) (q0 := 0) rfl rfl, PcM.ok hPc hDc hK hE hS hFc⟩ rfl rfl hl.1 rfl (lv_room (Nat.le_of_ble_eq_true rfl)) dX5_sure_24 ⟨Nat.le_refl _, Nat.le_refl _⟩) hP hD hS hA [3, 4, 5, 6, 7, 8, 9, 10, 11, 12, 13, 14] rfl (fun H locs hP hS => ?_)
        refine lv_istore_n (lv' := [(3, .int r2), (0, .ref a0.1), (1, .int v1), (2, .int v2)]) hx hb dX5_sure_27 rfl hl (by decide) rfl (fun ls hl => ?_)
        refine lv_iload_n hx hb dX5_sure_28 rfl (lv_at hl 0 rfl) ?_
        obtain ⟨r3, hr3, hf⟩ := ob_bind hf
        have hPc : va_P G.1 vwCl (([] : va_W)) H := hP.sub [] rfl
        have hDc : va_D A (([] : va_W)) := hD.sub [] (by decide) rfl
        have hFc := va_free (wc := ([] : va_W)) hD hS hA [] rfl
        refine zc_ro (va_runS (As := [.int r2]) (rest := []) ⟨hx, hb, hml, hown, hts⟩ (c_J6_bitCount_0f7a4 l G H.size r2 _ hr3) (va_cwS 1 hts gX5_sure_J6_bitCount_0f7a4 rfl rfl rfl (by decide +kernel) ⟨Nat.le_of_ble_eq_true rfl, Nat.le_of_ble_eq_true rfl⟩) ⟨PcM.blind, PcM.ok hPc hDc hK hE hS hFc⟩ rfl rfl hl.1 rfl (lv_room (Nat.le_of_ble_eq_true rfl)) dX5_sure_29 ⟨Nat.le_refl _, Nat.le_refl _⟩) hP hD hS hA [] rfl (fun H locs hP hS => ?_)
        refine lv_iconst (v := 1) hx hb dX5_sure_32 (by decide) ?_
        refine lv_icmp_ne (tgt := 40) hx hb dX5_sure_33 (by decide) (fun c4 => ?_) (fun c4 => ?_)
        · replace hf := ob_neg c4 hf
          exact blk40 _ _ hf _ _ hP hD hS _ (lv_sub hl [1, 2, 3] rfl)
        · replace hf := ob_pos c4 hf
          refine lv_iload_n hx hb dX5_sure_36 rfl (lv_at hl 2 rfl) ?_
          refine lv_iload_n hx hb dX5_sure_37 rfl (lv_at hl 0 rfl) ?_
          refine lv_ior hx hb dX5_sure_38 ?_
          refine lv_istore_n (lv' := [(1, .int (v1 ||| r2)), (3, .int r2), (0, .ref a0.1), (2, .int v2)]) hx hb dX5_sure_39 rfl hl (by decide) rfl (fun ls hl => ?_)
          exact blk40 _ _ hf _ _ hP hD hS _ (lv_sub hl [2, 0, 3] rfl)
  have go : ∀ (H : Heap) (locs : List Loc), va_P G.1 vwCl (ce_X5 G.2.1 a0 S0) H → va_D A (ce_X5 G.2.1 a0 S0) → va_S A s.heap H locs → ∀ (ls : Array Slot), lv_has ls 4 [(0, .ref a0.1)] → W p l e (headSpec wsX5_sure rm_X5_sure).room s m args below meth c H locs 0 0 Q (F0 m 0 ls []) := by
    intro H locs hP hD hS ls hl
    refine lv_iconst (v := 0) hx hb dX5_sure_0 (by decide) ?_
    refine lv_istore_n (lv' := [(1, .int 0), (0, .ref a0.1)]) hx hb dX5_sure_1 rfl hl (by decide) rfl (fun ls hl => ?_)
    refine lv_iconst (v := 0) hx hb dX5_sure_2 (by decide) ?_
    refine lv_istore_n (lv' := [(2, .int 0), (1, .int 0), (0, .ref a0.1)]) hx hb dX5_sure_3 rfl hl (by decide) rfl (fun ls hl => ?_)
    exact blk4 4096 _ _ hf _ _ hP hD hS _ (lv_sub hl [2, 1, 0] rfl)
  exact go _ _ hP hD hS _ hl
abbrev rm_X5_pairs : Room := { frames := 5, cells := 0, slots := 0, locals := 117 }
set_option maxHeartbeats 4000000 in
set_option maxRecDepth 100000 in
theorem c_X5_pairs (l : Launch) (G : zG) (a0 : AT_X5) (sz : Nat) (S0 : ST_X5) (p1 : Int32) (p2 : Int32) (out : Int32 × ST_X5) (hf : f_X5_pairs S0 p1 p2 = some out) : Met l yX5_pairs wsX5_pairs rm_X5_pairs (PcM G (ce_X5 G.2.1 a0 S0) [.ref a0.1, .int p1, .int p2] sz) (QWr G (fun u => ce_X5 G.2.1 a0 u) out (va_A (ce_X5 G.2.1 a0 S0) sz)) 0 0 (va_A (ce_X5 G.2.1 a0 S0) sz) := by
  rw [f_X5_pairs] at hf
  refine Met.ofW (cc := cX5_pairs) (maxL := 6) (ret := (some .int)) (by decide) rfl ?_
  intro p e s m args below meth c s₁ B hml hv
  obtain ⟨hargs, hsz, hP, hK, hD0, hE⟩ := hv
  have hx := B.exec
  have hb := B.bytes
  have hr := B.returns
  have hts := atoms_spec (ws := wsX5_pairs) B.pre
  have hown : s.vm.findClass RX5 = some m.cls := findClass_of_methodNamed B.named
  have hlocks := B.notSynchronized
  subst hsz
  have hD := hD0.self (sz := s.heap.size)
  generalize hAe : va_A (ce_X5 G.2.1 a0 S0) s.heap.size = A at hD hE ⊢
  have hA : ∀ q : Nat, s.heap.size ≤ q → A q := fun q h => by rw [← hAe]; exact Or.inr h
  have hS : va_S A s.heap s.heap [] := va_S.rf
  have hl := lv_entry ([.ref a0.1, .int p1, .int p2]) (n := 6) (Nat.le_of_ble_eq_true rfl)
  have hent : entryFrame m args 6 = F0 m 0 ((lg_sl ([.ref a0.1, .int p1, .int p2]) ++ List.replicate (6 - (lg_sl ([.ref a0.1, .int p1, .int p2])).length) Slot.unset).toArray) [] := by rw [hargs, lg_entry_eq]
  rw [hent]
  clear hent
  generalize (lg_sl ([.ref a0.1, .int p1, .int p2]) ++ List.replicate (6 - (lg_sl ([.ref a0.1, .int p1, .int p2])).length) Slot.unset).toArray = ls at hl ⊢
  have hl : lv_has ls 6 [(0, .ref a0.1), (1, .int p1), (2, .int p2)] := hl
  have lk0 := hts (Cond.fieldLink RX5 19 "EnginesOnList" "now" "LEnginesOnList$World;") (List.mem_of_getElem? (i := 1) rfl)
  have lk1 := va_Nw.use (A := args) rfl (hE.1 _ nw_14)
  have lk2 := va_Nw.use (A := args) rfl (hE.1 _ nw_5)
  have lk3 := hts (Cond.initialized RX4) (List.mem_of_getElem? (i := 9) rfl)
  have lk4 := hts (Cond.instanceMethod yX4_goTogether) (List.mem_of_getElem? (i := 8) rfl)
  have lk5 := hts (Cond.selects RX4 yX4_goTogether yX4_goTogether) (List.mem_of_getElem? (i := 10) rfl)
  have hinX5 : ∀ w ∈ wsX50, w ∈ wsX5_pairs := by decide +kernel
  have hinX4 : ∀ w ∈ wsX40, w ∈ wsX5_pairs := by decide +kernel
  have hinX1 : ∀ w ∈ wsX10, w ∈ wsX5_pairs := by decide +kernel
  have fin : ∀ (pc : Nat) (v : Int32) (u : ST_X5) (H : Heap) (locs : List Loc) (ls : Array Slot), some (v, u) = some out → va_P G.1 vwCl (ce_X5 G.2.1 a0 u) H → va_D A (ce_X5 G.2.1 a0 u) → va_S A s.heap H locs → decode cX5_pairs pc = .ok (.ireturn, 1) → W p l e (headSpec wsX5_pairs rm_X5_pairs).room s m args below meth c H locs 0 0 (MQ below (QWr G (fun u => ce_X5 G.2.1 a0 u) out A) args s 0 0 A) (F0 m pc ls [.int v]) := fun pc v u H locs ls ho hP hD hS hd => W.iret (v := v) hx hb hr (fun t ht hW => ⟨⟨v, u, rfl, ob_pair ho, by first | (rw [ht]; exact hP) | (dsimp only; rw [ht]; exact hP), hD⟩, hS.F ht⟩) hS.2.2 hd
  generalize MQ below (QWr G (fun u => ce_X5 G.2.1 a0 u) out A) args s 0 0 A = Q at fin ⊢
  have blk34 : ∀ (S0 : ST_X5), f_X5_pairs_b34 S0 = some out → ∀ (H : Heap) (locs : List Loc), va_P G.1 vwCl (ce_X5 G.2.1 a0 S0) H → va_D A (ce_X5 G.2.1 a0 S0) → va_S A s.heap H locs → ∀ (ls : Array Slot), lv_has ls 6 [(0, .ref a0.1)] → W p l e (headSpec wsX5_pairs rm_X5_pairs).room s m args below meth c H locs 0 0 Q (F0 m 34 ls []) := by
    intro S0 hf H locs hP hD hS ls hl
    rw [f_X5_pairs_b34] at hf
    refine lv_aload_n hx hb dX5_pairs_34 rfl (lv_at hl 0 rfl) ?_
    refine lv_bipush (v := (-2)) hx hb dX5_pairs_35 (by decide) ?_
    obtain ⟨r1, hr1, hf⟩ := ob_bind hf
    have hFc := va_free (wc := ce_X5 G.2.1 a0 S0) hD hS hA [0, 1, 2, 3, 4, 5, 6, 7, 8, 9, 10, 11, 12, 13, 14, 15, 16, 17, 18, 19, 20, 21, 22, 23, 24, 25, 26, 27, 28, 29, 30, 31, 32, 33, 34, 35, 36, 37, 38] rfl
    refine zc_wr (cf := (fun u => ce_X5 G.2.1 a0 u)) (ws' := ce_X5 G.2.1 a0 r1.2) (va_runV (As := [.int (-2)]) (rest := []) ⟨hx, hb, hml, hown, hts⟩ (c_X5_refuse l G a0 H.size S0 (-2) _ hr1) (cwV 1 hts gX5_pairs_X5_refuse rfl rfl rfl (by decide +kernel) ⟨Nat.le_of_ble_eq_true rfl, Nat.le_of_ble_eq_true rfl⟩) ⟨PcM.blind, va_recv hK hP (ci := 5) (q0 := 0) rfl rfl, PcM.ok hP hD hK hE hS hFc⟩ rfl rfl hl.1 rfl (lv_room (Nat.le_of_ble_eq_true rfl)) dX5_pairs_37 ⟨Nat.le_refl _, Nat.le_refl _⟩) hP hD hS hA [0, 1, 2, 3, 4, 5, 6, 7, 8, 9, 10, 11, 12, 13, 14, 15, 16, 17, 18, 19, 20, 21, 22, 23, 24, 25, 26, 27, 28, 29, 30, 31, 32, 33, 34, 35, 36, 37, 38] [] [0, 1, 2, 3, 4, 5, 6, 7, 8, 9, 10, 11, 12, 13, 14, 15, 16, 17, 18, 19, 20, 21, 22, 23, 24, 25, 26, 27, 28, 29, 30, 31, 32, 33, 34, 35, 36, 37, 38] rfl rfl (by decide) (by decide) (by decide) rfl (fun H locs hP hD hS => ?_)
    exact fin _ _ _ _ _ _ hf hP hD hS dX5_pairs_40
  have blk46 : ∀ (fu46 : Nat), ∀ (S0 : ST_X5) (v1 : Int32) (v2 : Int32) (v3 : Int32) (v4 : Int32), f_X5_pairs_b46 fu46 S0 v1 v2 v3 v4 = some out → ∀ (H : Heap) (locs : List Loc), va_P G.1 vwCl (ce_X5 G.2.1 a0 S0) H → va_D A (ce_X5 G.2.1 a0 S0) → va_S A s.heap H locs → ∀ (ls : Array Slot), lv_has ls 6 [(0, .ref a0.1), (1, .int v1), (2, .int v2), (3, .int v3), (4, .int v4)] → W p l e (headSpec wsX5_pairs rm_X5_pairs).room s m args below meth c H locs 0 0 Q (F0 m 46 ls []) := by
    intro fu46
    induction fu46 with
    | zero => intro S0 v1 v2 v3 v4 hf; exact ob_none hf
    | succ fu46 ih46 =>
      intro S0 v1 v2 v3 v4 hf H locs hP hD hS ls hl
      rw [f_X5_pairs_b46] at hf
      have blk67 : ∀ (fu67 : Nat), ∀ (S0 : ST_X5) (v1 : Int32) (v2 : Int32) (v3 : Int32) (v4 : Int32) (v5 : Int32), f_X5_pairs_b67 (f_X5_pairs_b46 fu46) fu67 S0 v1 v2 v3 v4 v5 = some out → ∀ (H : Heap) (locs : List Loc), va_P G.1 vwCl (ce_X5 G.2.1 a0 S0) H → va_D A (ce_X5 G.2.1 a0 S0) → va_S A s.heap H locs → ∀ (ls : Array Slot), lv_has ls 6 [(0, .ref a0.1), (1, .int v1), (2, .int v2), (3, .int v3), (4, .int v4), (5, .int v5)] → W p l e (headSpec wsX5_pairs rm_X5_pairs).room s m args below meth c H locs 0 0 Q (F0 m 67 ls []) := by
        intro fu67
        induction fu67 with
        | zero => intro S0 v1 v2 v3 v4 v5 hf; exact ob_none hf
        | succ fu67 ih67 =>
          intro S0 v1 v2 v3 v4 v5 hf H locs hP hD hS ls hl
          rw [f_X5_pairs_b67] at hf
          have blk114 : ∀ (S0 : ST_X5) (v1 : Int32) (v2 : Int32) (v3 : Int32) (v4 : Int32) (v5 : Int32), f_X5_pairs_b114 (f_X5_pairs_b46 fu46) (f_X5_pairs_b67 (f_X5_pairs_b46 fu46) fu67) S0 v1 v2 v3 v4 v5 = some out → ∀ (H : Heap) (locs : List Loc), va_P G.1 vwCl (ce_X5 G.2.1 a0 S0) H → va_D A (ce_X5 G.2.1 a0 S0) → va_S A s.heap H locs → ∀ (ls : Array Slot), lv_has ls 6 [(0, .ref a0.1), (1, .int v1), (2, .int v2), (3, .int v3), (4, .int v4), (5, .int v5)] → W p l e (headSpec wsX5_pairs rm_X5_pairs).room s m args below meth c H locs 0 0 Q (F0 m 114 ls []) := by
            intro S0 v1 v2 v3 v4 v5 hf H locs hP hD hS ls hl
            rw [f_X5_pairs_b114] at hf
            refine lv_iinc (v := v5 + 1) (lv' := [(5, .int (v5 + 1)), (0, .ref a0.1), (1, .int v1), (2, .int v2), (3, .int v3), (4, .int v4)]) hx hb dX5_pairs_114 hl (k := 5) rfl rfl (by decide) rfl (fun ls hl => ?_)
            refine lv_goto (tgt := 67) hx hb dX5_pairs_117 (by decide) ?_
            exact ih67 _ _ _ _ _ _ hf _ _ hP hD hS _ (lv_sub hl [1, 2, 3, 4, 5, 0] rfl)
          refine lv_iload hx hb dX5_pairs_67 (lv_at hl 5 rfl) ?_
          refine lv_aload_n hx hb dX5_pairs_69 rfl (lv_at hl 0 rfl) ?_
          refine va_get (D := G.1) (ci := 5) (v := .ref a0.2.2.1.1) (C := RX5) (T := TX5) (N := 9) hx hb hts hinX5 hown hK hP 0 rfl rfl 1 (by decide) lk0 (fun _ h9 => h9) rfl dX5_pairs_70 ?_
          refine va_getN (D := G.1) (ci := 4) (v := .ref a0.2.2.1.2.1.1) (C := RX4) (T := TX4) (N := 3) hx hb hts hinX4 hown hK hP 3 rfl rfl 0 (by decide) lk1 (fun _ h9 => h9) rfl dX5_pairs_73 ?_
          refine va_getN (D := G.1) (ci := 1) (v := .int S0.2.1.1.2.2.2.2.2.1) (C := RX1) (T := TX1) (N := 9) hx hb hts hinX1 hown hK hP 4 rfl rfl 5 (by decide) lk2 (fun _ h9 => h9) rfl dX5_pairs_76 ?_
          refine lv_icmp_ge (tgt := 120) hx hb dX5_pairs_79 (by decide) (fun c2 => ?_) (fun c2 => ?_)
          · replace hf := ob_pos c2 hf
            refine lv_iinc (v := v4 + 1) (lv' := [(4, .int (v4 + 1)), (0, .ref a0.1), (1, .int v1), (2, .int v2), (3, .int v3), (5, .int v5)]) hx hb dX5_pairs_120 hl (k := 4) rfl rfl (by decide) rfl (fun ls hl => ?_)
            refine lv_goto (tgt := 46) hx hb dX5_pairs_123 (by decide) ?_
            exact ih46 _ _ _ _ _ hf _ _ hP hD hS _ (lv_sub hl [1, 2, 3, 4, 0] rfl)
          · replace hf := ob_neg c2 hf
            refine lv_aload_n hx hb dX5_pairs_82 rfl (lv_at hl 0 rfl) ?_
            refine va_get (D := G.1) (ci := 5) (v := .ref a0.2.2.1.1) (C := RX5) (T := TX5) (N := 9) hx hb hts hinX5 hown hK hP 0 rfl rfl 1 (by decide) lk0 (fun _ h9 => h9) rfl dX5_pairs_83 ?_
            refine lv_iload hx hb dX5_pairs_86 (lv_at hl 4 rfl) ?_
            refine lv_iload hx hb dX5_pairs_88 (lv_at hl 5 rfl) ?_
            refine lv_iload_n hx hb dX5_pairs_90 rfl (lv_at hl 1 rfl) ?_
            obtain ⟨r3, hr3, hf⟩ := ob_bind hf
            have hPc : va_P G.1 vwCl (ce_X4 G.2.1 a0.2.2.1 S0.2.1) H := hP.sub [3, 4, 5, 6, 7, 8, 9, 10, 11, 12, 13, 14] rfl
            have hDc : va_D A (ce_X4 G.2.1 a0.2.2.1 S0.2.1) := hD.sub [3, 4, 5, 6, 7, 8, 9, 10, 11, 12, 13, 14] (by decide) rfl
            have hFc := va_free (wc := ce_X4 G.2.1 a0.2.2.1 S0.2.1) hD hS hA [3, 4, 5, 6, 7, 8, 9, 10, 11, 12, 13, 14] rfl
            refine zc_ro (va_runVN (As := [.int v4, .int v5, .int v1]) (rest := []) ⟨hx, hb, hml, hown, hts⟩ (c_X4_goTogether l G a0.2.2.1 H.size S0.2.1 v4 v5 v1 _ hr3) (⟨va_cnB 3 hts gX5_pairs_X4_goTogether_n164 rfl rfl rfl (hE.1 _ nw_63) lk3 (by decide +kernel) ⟨Nat.le_of_ble_eq_true rfl, Nat.le_of_ble_eq_true rfl⟩, lk4, lk5⟩) ⟨PcM.blind, va_recv hK hPc (ci := 4) (q0 := 0) rfl rfl, PcM.ok hPc hDc hK hE hS hFc⟩ rfl rfl hl.1 rfl (lv_room (Nat.le_of_ble_eq_true rfl)) dX5_pairs_91 ⟨Nat.le_refl _, Nat.le_refl _⟩) hP hD hS hA [3, 4, 5, 6, 7, 8, 9, 10, 11, 12, 13, 14] rfl (fun H locs hP hS => ?_)
            refine lv_if_eq (tgt := 114) hx hb dX5_pairs_94 (by decide) (fun c4 => ?_) (fun c4 => ?_)
            · replace hf := ob_pos c4 hf
              exact blk114 _ _ _ _ _ _ hf _ _ hP hD hS _ (lv_sub hl [0, 1, 2, 3, 4, 5] rfl)
            · replace hf := ob_neg c4 hf
              refine lv_iload_n hx hb dX5_pairs_97 rfl (lv_at hl 2 rfl) ?_
              refine lv_iconst (v := 1) hx hb dX5_pairs_98 (by decide) ?_
              refine lv_icmp_ne (tgt := 111) hx hb dX5_pairs_99 (by decide) (fun c5 => ?_) (fun c5 => ?_)
              · replace hf := ob_neg c5 hf
                refine lv_iinc (v := v3 + 1) (lv' := [(3, .int (v3 + 1)), (0, .ref a0.1), (1, .int v1), (2, .int v2), (4, .int v4), (5, .int v5)]) hx hb dX5_pairs_111 hl (k := 3) rfl rfl (by decide) rfl (fun ls hl => ?_)
                exact blk114 _ _ _ _ _ _ hf _ _ hP hD hS _ (lv_sub hl [1, 2, 3, 0, 4, 5] rfl)
              · replace hf := ob_pos c5 hf
                refine lv_bipush (v := 10) hx hb dX5_pairs_102 (by decide) ?_
                refine lv_iload hx hb dX5_pairs_104 (lv_at hl 4 rfl) ?_
                refine lv_imul hx hb dX5_pairs_106 ?_
                refine lv_iload hx hb dX5_pairs_107 (lv_at hl 5 rfl) ?_
                refine lv_iadd hx hb dX5_pairs_109 ?_
                exact fin _ _ _ _ _ _ hf hP hD hS dX5_pairs_110
      refine lv_iload hx hb dX5_pairs_46 (lv_at hl 4 rfl) ?_
      refine lv_aload_n hx hb dX5_pairs_48 rfl (lv_at hl 0 rfl) ?_
      refine va_get (D := G.1) (ci := 5) (v := .ref a0.2.2.1.1) (C := RX5) (T := TX5) (N := 9) hx hb hts hinX5 hown hK hP 0 rfl rfl 1 (by decide) lk0 (fun _ h9 => h9) rfl dX5_pairs_49 ?_
      refine va_getN (D := G.1) (ci := 4) (v := .ref a0.2.2.1.2.1.1) (C := RX4) (T := TX4) (N := 3) hx hb hts hinX4 hown hK hP 3 rfl rfl 0 (by decide) lk1 (fun _ h9 => h9) rfl dX5_pairs_52 ?_
      refine va_getN (D := G.1) (ci := 1) (v := .int S0.2.1.1.2.2.2.2.2.1) (C := RX1) (T := TX1) (N := 9) hx hb hts hinX1 hown hK hP 4 rfl rfl 5 (by decide) lk2 (fun _ h9 => h9) rfl dX5_pairs_55 ?_
      refine lv_icmp_ge (tgt := 126) hx hb dX5_pairs_58 (by decide) (fun c6 => ?_) (fun c6 => ?_)
      · replace hf := ob_pos c6 hf
        refine lv_iload_n hx hb dX5_pairs_126 rfl (lv_at hl 2 rfl) ?_
        refine lv_iconst (v := 1) hx hb dX5_pairs_127 (by decide) ?_
        refine lv_icmp_ne (tgt := 136) hx hb dX5_pairs_128 (by decide) (fun c7 => ?_) (fun c7 => ?_)
        · replace hf := ob_neg c7 hf
          refine lv_iload_n hx hb dX5_pairs_136 rfl (lv_at hl 3 rfl) ?_
          exact fin _ _ _ _ _ _ hf hP hD hS dX5_pairs_137
        · replace hf := ob_pos c7 hf
          refine lv_bipush (v := (-9)) hx hb dX5_pairs_131 (by decide) ?_
          refine lv_goto (tgt := 137) hx hb dX5_pairs_133 (by decide) ?_
          exact fin _ _ _ _ _ _ hf hP hD hS dX5_pairs_137
      · replace hf := ob_neg c6 hf
        refine lv_iload hx hb dX5_pairs_61 (lv_at hl 4 rfl) ?_
        refine lv_iconst (v := 1) hx hb dX5_pairs_63 (by decide) ?_
        refine lv_iadd hx hb dX5_pairs_64 ?_
        refine lv_istore (lv' := [(5, .int (v4 + 1)), (0, .ref a0.1), (1, .int v1), (2, .int v2), (3, .int v3), (4, .int v4)]) hx hb dX5_pairs_65 hl (by decide) rfl (fun ls hl => ?_)
        exact blk67 4096 _ _ _ _ _ _ hf _ _ hP hD hS _ (lv_sub hl [1, 2, 3, 4, 5, 0] rfl)
  have go : ∀ (H : Heap) (locs : List Loc), va_P G.1 vwCl (ce_X5 G.2.1 a0 S0) H → va_D A (ce_X5 G.2.1 a0 S0) → va_S A s.heap H locs → ∀ (ls : Array Slot), lv_has ls 6 [(0, .ref a0.1), (1, .int p1), (2, .int p2)] → W p l e (headSpec wsX5_pairs rm_X5_pairs).room s m args below meth c H locs 0 0 Q (F0 m 0 ls []) := by
    intro H locs hP hD hS ls hl
    refine lv_iload_n hx hb dX5_pairs_0 rfl (lv_at hl 1 rfl) ?_
    refine lv_iconst (v := 1) hx hb dX5_pairs_1 (by decide) ?_
    refine lv_icmp_ge (tgt := 12) hx hb dX5_pairs_2 (by decide) (fun c8 => ?_) (fun c8 => ?_)
    · replace hf := ob_pos c8 hf
      refine lv_iload_n hx hb dX5_pairs_12 rfl (lv_at hl 1 rfl) ?_
      refine lv_bipush (v := 60) hx hb dX5_pairs_13 (by decide) ?_
      refine lv_icmp_le (tgt := 25) hx hb dX5_pairs_15 (by decide) (fun c9 => ?_) (fun c9 => ?_)
      · replace hf := ob_pos c9 hf
        refine lv_iload_n hx hb dX5_pairs_25 rfl (lv_at hl 2 rfl) ?_
        refine lv_if_lt (tgt := 34) hx hb dX5_pairs_26 (by decide) (fun c10 => ?_) (fun c10 => ?_)
        · replace hf := ob_pos c10 hf
          exact blk34 _ hf _ _ hP hD hS _ (lv_sub hl [0] rfl)
        · replace hf := ob_neg c10 hf
          refine lv_iload_n hx hb dX5_pairs_29 rfl (lv_at hl 2 rfl) ?_
          refine lv_iconst (v := 1) hx hb dX5_pairs_30 (by decide) ?_
          refine lv_icmp_le (tgt := 41) hx hb dX5_pairs_31 (by decide) (fun c11 => ?_) (fun c11 => ?_)
          · replace hf := ob_pos c11 hf
            refine lv_iconst (v := 0) hx hb dX5_pairs_41 (by decide) ?_
            refine lv_istore_n (lv' := [(3, .int 0), (0, .ref a0.1), (1, .int p1), (2, .int p2)]) hx hb dX5_pairs_42 rfl hl (by decide) rfl (fun ls hl => ?_)
            refine lv_iconst (v := 0) hx hb dX5_pairs_43 (by decide) ?_
            refine lv_istore (lv' := [(4, .int 0), (3, .int 0), (0, .ref a0.1), (1, .int p1), (2, .int p2)]) hx hb dX5_pairs_44 hl (by decide) rfl (fun ls hl => ?_)
            exact blk46 4096 _ _ _ _ _ hf _ _ hP hD hS _ (lv_sub hl [2, 3, 4, 1, 0] rfl)
          · replace hf := ob_neg c11 hf
            exact blk34 _ hf _ _ hP hD hS _ (lv_sub hl [0] rfl)
      · replace hf := ob_neg c9 hf
        refine lv_aload_n hx hb dX5_pairs_18 rfl (lv_at hl 0 rfl) ?_
        refine lv_bipush (v := (-6)) hx hb dX5_pairs_19 (by decide) ?_
        obtain ⟨r12, hr12, hf⟩ := ob_bind hf
        have hFc := va_free (wc := ce_X5 G.2.1 a0 S0) hD hS hA [0, 1, 2, 3, 4, 5, 6, 7, 8, 9, 10, 11, 12, 13, 14, 15, 16, 17, 18, 19, 20, 21, 22, 23, 24, 25, 26, 27, 28, 29, 30, 31, 32, 33, 34, 35, 36, 37, 38] rfl
        refine zc_wr (cf := (fun u => ce_X5 G.2.1 a0 u)) (ws' := ce_X5 G.2.1 a0 r12.2) (va_runV (As := [.int (-6)]) (rest := []) ⟨hx, hb, hml, hown, hts⟩ (c_X5_refuse l G a0 H.size S0 (-6) _ hr12) (cwV 1 hts gX5_pairs_X5_refuse rfl rfl rfl (by decide +kernel) ⟨Nat.le_of_ble_eq_true rfl, Nat.le_of_ble_eq_true rfl⟩) ⟨PcM.blind, va_recv hK hP (ci := 5) (q0 := 0) rfl rfl, PcM.ok hP hD hK hE hS hFc⟩ rfl rfl hl.1 rfl (lv_room (Nat.le_of_ble_eq_true rfl)) dX5_pairs_21 ⟨Nat.le_refl _, Nat.le_refl _⟩) hP hD hS hA [0, 1, 2, 3, 4, 5, 6, 7, 8, 9, 10, 11, 12, 13, 14, 15, 16, 17, 18, 19, 20, 21, 22, 23, 24, 25, 26, 27, 28, 29, 30, 31, 32, 33, 34, 35, 36, 37, 38] [] [0, 1, 2, 3, 4, 5, 6, 7, 8, 9, 10, 11, 12, 13, 14, 15, 16, 17, 18, 19, 20, 21, 22, 23, 24, 25, 26, 27, 28, 29, 30, 31, 32, 33, 34, 35, 36, 37, 38] rfl rfl (by decide) (by decide) (by decide) rfl (fun H locs hP hD hS => ?_)
        exact fin _ _ _ _ _ _ hf hP hD hS dX5_pairs_24
    · replace hf := ob_neg c8 hf
      refine lv_aload_n hx hb dX5_pairs_5 rfl (lv_at hl 0 rfl) ?_
      refine lv_bipush (v := (-4)) hx hb dX5_pairs_6 (by decide) ?_
      obtain ⟨r13, hr13, hf⟩ := ob_bind hf
      have hFc := va_free (wc := ce_X5 G.2.1 a0 S0) hD hS hA [0, 1, 2, 3, 4, 5, 6, 7, 8, 9, 10, 11, 12, 13, 14, 15, 16, 17, 18, 19, 20, 21, 22, 23, 24, 25, 26, 27, 28, 29, 30, 31, 32, 33, 34, 35, 36, 37, 38] rfl
      refine zc_wr (cf := (fun u => ce_X5 G.2.1 a0 u)) (ws' := ce_X5 G.2.1 a0 r13.2) (va_runV (As := [.int (-4)]) (rest := []) ⟨hx, hb, hml, hown, hts⟩ (c_X5_refuse l G a0 H.size S0 (-4) _ hr13) (cwV 1 hts gX5_pairs_X5_refuse rfl rfl rfl (by decide +kernel) ⟨Nat.le_of_ble_eq_true rfl, Nat.le_of_ble_eq_true rfl⟩) ⟨PcM.blind, va_recv hK hP (ci := 5) (q0 := 0) rfl rfl, PcM.ok hP hD hK hE hS hFc⟩ rfl rfl hl.1 rfl (lv_room (Nat.le_of_ble_eq_true rfl)) dX5_pairs_8 ⟨Nat.le_refl _, Nat.le_refl _⟩) hP hD hS hA [0, 1, 2, 3, 4, 5, 6, 7, 8, 9, 10, 11, 12, 13, 14, 15, 16, 17, 18, 19, 20, 21, 22, 23, 24, 25, 26, 27, 28, 29, 30, 31, 32, 33, 34, 35, 36, 37, 38] [] [0, 1, 2, 3, 4, 5, 6, 7, 8, 9, 10, 11, 12, 13, 14, 15, 16, 17, 18, 19, 20, 21, 22, 23, 24, 25, 26, 27, 28, 29, 30, 31, 32, 33, 34, 35, 36, 37, 38] rfl rfl (by decide) (by decide) (by decide) rfl (fun H locs hP hD hS => ?_)
      exact fin _ _ _ _ _ _ hf hP hD hS dX5_pairs_11
  exact go _ _ hP hD hS _ hl
abbrev rm_X5_many : Room := { frames := 5, cells := 0, slots := 0, locals := 110 }
set_option maxHeartbeats 4000000 in
set_option maxRecDepth 100000 in
theorem c_X5_many (l : Launch) (G : zG) (a0 : AT_X5) (sz : Nat) (S0 : ST_X5) (out : Int32) (hf : f_X5_many S0 = some out) : Met l yX5_many wsX5_many rm_X5_many (PcM G (ce_X5 G.2.1 a0 S0) [.ref a0.1] sz) (QRo G (ce_X5 G.2.1 a0 S0) out (va_A (ce_X5 G.2.1 a0 S0) sz)) 0 0 (va_A (ce_X5 G.2.1 a0 S0) sz) := by
  rw [f_X5_many] at hf
  refine Met.ofW (cc := cX5_many) (maxL := 2) (ret := (some .int)) (by decide) rfl ?_
  intro p e s m args below meth c s₁ B hml hv
  obtain ⟨hargs, hsz, hP, hK, hD0, hE⟩ := hv
  have hx := B.exec
  have hb := B.bytes
  have hr := B.returns
  have hts := atoms_spec (ws := wsX5_many) B.pre
  have hown : s.vm.findClass RX5 = some m.cls := findClass_of_methodNamed B.named
  have hlocks := B.notSynchronized
  subst hsz
  have hD := hD0.self (sz := s.heap.size)
  generalize hAe : va_A (ce_X5 G.2.1 a0 S0) s.heap.size = A at hD hE ⊢
  have hA : ∀ q : Nat, s.heap.size ≤ q → A q := fun q h => by rw [← hAe]; exact Or.inr h
  have hS : va_S A s.heap s.heap [] := va_S.rf
  have hl := lv_entry ([.ref a0.1]) (n := 2) (Nat.le_of_ble_eq_true rfl)
  have hent : entryFrame m args 2 = F0 m 0 ((lg_sl ([.ref a0.1]) ++ List.replicate (2 - (lg_sl ([.ref a0.1])).length) Slot.unset).toArray) [] := by rw [hargs, lg_entry_eq]
  rw [hent]
  clear hent
  generalize (lg_sl ([.ref a0.1]) ++ List.replicate (2 - (lg_sl ([.ref a0.1])).length) Slot.unset).toArray = ls at hl ⊢
  have hl : lv_has ls 2 [(0, .ref a0.1)] := hl
  have lk0 := hts (Cond.fieldLink RX5 19 "EnginesOnList" "now" "LEnginesOnList$World;") (List.mem_of_getElem? (i := 1) rfl)
  have lk1 := va_Nw.use (A := args) rfl (hE.1 _ nw_15)
  have lk2 := hts (Cond.initialized RX0) (List.mem_of_getElem? (i := 3) rfl)
  have lk3 := hts (Cond.instanceMethod yX0_unlikeNumbers) (List.mem_of_getElem? (i := 2) rfl)
  have lk4 := hts (Cond.selects RX0 yX0_unlikeNumbers yX0_unlikeNumbers) (List.mem_of_getElem? (i := 4) rfl)
  have lk5 := hts (Cond.instanceMethod yX0_greatestNumber) (List.mem_of_getElem? (i := 20) rfl)
  have lk6 := hts (Cond.selects RX0 yX0_greatestNumber yX0_greatestNumber) (List.mem_of_getElem? (i := 21) rfl)
  have hinX5 : ∀ w ∈ wsX50, w ∈ wsX5_many := by decide +kernel
  have hinX4 : ∀ w ∈ wsX40, w ∈ wsX5_many := by decide +kernel
  have fin : ∀ (pc : Nat) (v : Int32) (H : Heap) (locs : List Loc) (ls : Array Slot), some v = some out → va_P G.1 vwCl (ce_X5 G.2.1 a0 S0) H → va_D A (ce_X5 G.2.1 a0 S0) → va_S A s.heap H locs → decode cX5_many pc = .ok (.ireturn, 1) → W p l e (headSpec wsX5_many rm_X5_many).room s m args below meth c H locs 0 0 (MQ below (QRo G (ce_X5 G.2.1 a0 S0) out A) args s 0 0 A) (F0 m pc ls [.int v]) := fun pc v H locs ls ho hP hD hS hd => W.iret (v := v) hx hb hr (fun t ht hW => ⟨⟨v, (), rfl, Option.some.inj ho, by first | (rw [ht]; exact hP) | (dsimp only; rw [ht]; exact hP)⟩, hS.F ht⟩) hS.2.2 hd
  generalize MQ below (QRo G (ce_X5 G.2.1 a0 S0) out A) args s 0 0 A = Q at fin ⊢
  have go : ∀ (H : Heap) (locs : List Loc), va_P G.1 vwCl (ce_X5 G.2.1 a0 S0) H → va_D A (ce_X5 G.2.1 a0 S0) → va_S A s.heap H locs → ∀ (ls : Array Slot), lv_has ls 2 [(0, .ref a0.1)] → W p l e (headSpec wsX5_many rm_X5_many).room s m args below meth c H locs 0 0 Q (F0 m 0 ls []) := by
    intro H locs hP hD hS ls hl
    refine lv_aload_n hx hb dX5_many_0 rfl (lv_at hl 0 rfl) ?_
    refine va_get (D := G.1) (ci := 5) (v := .ref a0.2.2.1.1) (C := RX5) (T := TX5) (N := 9) hx hb hts hinX5 hown hK hP 0 rfl rfl 1 (by decide) lk0 (fun _ h9 => h9) rfl dX5_many_1 ?_
    refine va_getN (D := G.1) (ci := 4) (v := .ref a0.2.2.1.2.2.1) (C := RX4) (T := TX4) (N := 3) hx hb hts hinX4 hown hK hP 3 rfl rfl 1 (by decide) lk1 (fun _ h9 => h9) rfl dX5_many_4 ?_
    obtain ⟨r1, hr1, hf⟩ := ob_bind hf
    have hPc : va_P G.1 vwCl (ce_X0 G.2.1 a0.2.2.1.2.2 S0.2.1.2.1) H := hP.sub [10, 11, 12, 13, 14] rfl
    have hDc : va_D A (ce_X0 G.2.1 a0.2.2.1.2.2 S0.2.1.2.1) := hD.sub [10, 11, 12, 13, 14] (by decide) rfl
    have hFc := va_free (wc := ce_X0 G.2.1 a0.2.2.1.2.2 S0.2.1.2.1) hD hS hA [10, 11, 12, 13, 14] rfl
    refine zc_ro (va_runVN (As := []) (rest := []) ⟨hx, hb, hml, hown, hts⟩ (c_X0_unlikeNumbers l G a0.2.2.1.2.2 H.size S0.2.1.2.1 _ hr1) (⟨va_cnB 0 hts gX5_many_X0_unlikeNumbers_n168 rfl rfl rfl (hE.1 _ nw_64) lk2 (by decide +kernel) ⟨Nat.le_of_ble_eq_true rfl, Nat.le_of_ble_eq_true rfl⟩, lk3, lk4⟩) ⟨PcM.blind, va_recv hK hPc (ci := 0) (q0 := 0) rfl rfl, PcM.ok hPc hDc hK hE hS hFc⟩ rfl rfl hl.1 rfl (lv_room (Nat.le_of_ble_eq_true rfl)) dX5_many_7 ⟨Nat.le_refl _, Nat.le_refl _⟩) hP hD hS hA [10, 11, 12, 13, 14] rfl (fun H locs hP hS => ?_)
    refine lv_istore_n (lv' := [(1, .int r1), (0, .ref a0.1)]) hx hb dX5_many_10 rfl hl (by decide) rfl (fun ls hl => ?_)
    refine lv_iload_n hx hb dX5_many_11 rfl (lv_at hl 0 rfl) ?_
    refine lv_if_ne (tgt := 17) hx hb dX5_many_12 (by decide) (fun c2 => ?_) (fun c2 => ?_)
    · replace hf := ob_neg c2 hf
      refine lv_aload_n hx hb dX5_many_17 rfl (lv_at hl 1 rfl) ?_
      refine va_get (D := G.1) (ci := 5) (v := .ref a0.2.2.1.1) (C := RX5) (T := TX5) (N := 9) hx hb hts hinX5 hown hK hP 0 rfl rfl 1 (by decide) lk0 (fun _ h9 => h9) rfl dX5_many_18 ?_
      refine va_getN (D := G.1) (ci := 4) (v := .ref a0.2.2.1.2.2.1) (C := RX4) (T := TX4) (N := 3) hx hb hts hinX4 hown hK hP 3 rfl rfl 1 (by decide) lk1 (fun _ h9 => h9) rfl dX5_many_21 ?_
      obtain ⟨r3, hr3, hf⟩ := ob_bind hf
      have hPc : va_P G.1 vwCl (ce_X0 G.2.1 a0.2.2.1.2.2 S0.2.1.2.1) H := hP.sub [10, 11, 12, 13, 14] rfl
      have hDc : va_D A (ce_X0 G.2.1 a0.2.2.1.2.2 S0.2.1.2.1) := hD.sub [10, 11, 12, 13, 14] (by decide) rfl
      have hFc := va_free (wc := ce_X0 G.2.1 a0.2.2.1.2.2 S0.2.1.2.1) hD hS hA [10, 11, 12, 13, 14] rfl
      refine zc_ro (va_runVN (As := []) (rest := []) ⟨hx, hb, hml, hown, hts⟩ (c_X0_greatestNumber l G a0.2.2.1.2.2 H.size S0.2.1.2.1 _ hr3) (⟨va_cnB 0 hts gX5_many_X0_greatestNumber_n171 rfl rfl rfl (hE.1 _ nw_65) lk2 (by decide +kernel) ⟨Nat.le_of_ble_eq_true rfl, Nat.le_of_ble_eq_true rfl⟩, lk5, lk6⟩) ⟨PcM.blind, va_recv hK hPc (ci := 0) (q0 := 0) rfl rfl, PcM.ok hPc hDc hK hE hS hFc⟩ rfl rfl hl.1 rfl (lv_room (Nat.le_of_ble_eq_true rfl)) dX5_many_24 ⟨Nat.le_refl _, Nat.le_refl _⟩) hP hD hS hA [10, 11, 12, 13, 14] rfl (fun H locs hP hS => ?_)
      refine lv_bipush (v := 9) hx hb dX5_many_27 (by decide) ?_
      refine lv_isub hx hb dX5_many_29 ?_
      refine lv_iload_n hx hb dX5_many_30 rfl (lv_at hl 0 rfl) ?_
      refine lv_iconst (v := 1) hx hb dX5_many_31 (by decide) ?_
      refine lv_iadd hx hb dX5_many_32 ?_
      refine lv_imul hx hb dX5_many_33 ?_
      refine lv_iload_n hx hb dX5_many_34 rfl (lv_at hl 0 rfl) ?_
      obtain ⟨hg4, hf⟩ := ob_guard hf
      refine lv_idiv hx hb dX5_many_35 hg4 ?_
      refine lv_iconst (v := 1) hx hb dX5_many_36 (by decide) ?_
      refine lv_isub hx hb dX5_many_37 ?_
      exact fin _ _ _ _ _ hf hP hD hS dX5_many_38
    · replace hf := ob_pos c2 hf
      refine lv_iconst (v := 0) hx hb dX5_many_15 (by decide) ?_
      exact fin _ _ _ _ _ hf hP hD hS dX5_many_16
  exact go _ _ hP hD hS _ hl
abbrev rm_X5_more : Room := { frames := 5, cells := 0, slots := 0, locals := 110 }
set_option maxHeartbeats 4000000 in
set_option maxRecDepth 100000 in
theorem c_X5_more (l : Launch) (G : zG) (a0 : AT_X5) (sz : Nat) (S0 : ST_X5) (out : Int32) (hf : f_X5_more S0 = some out) : Met l yX5_more wsX5_more rm_X5_more (PcM G (ce_X5 G.2.1 a0 S0) [.ref a0.1] sz) (QRo G (ce_X5 G.2.1 a0 S0) out (va_A (ce_X5 G.2.1 a0 S0) sz)) 0 0 (va_A (ce_X5 G.2.1 a0 S0) sz) := by
  rw [f_X5_more] at hf
  refine Met.ofW (cc := cX5_more) (maxL := 1) (ret := (some .int)) (by decide) rfl ?_
  intro p e s m args below meth c s₁ B hml hv
  obtain ⟨hargs, hsz, hP, hK, hD0, hE⟩ := hv
  have hx := B.exec
  have hb := B.bytes
  have hr := B.returns
  have hts := atoms_spec (ws := wsX5_more) B.pre
  have hown : s.vm.findClass RX5 = some m.cls := findClass_of_methodNamed B.named
  have hlocks := B.notSynchronized
  subst hsz
  have hD := hD0.self (sz := s.heap.size)
  generalize hAe : va_A (ce_X5 G.2.1 a0 S0) s.heap.size = A at hD hE ⊢
  have hA : ∀ q : Nat, s.heap.size ≤ q → A q := fun q h => by rw [← hAe]; exact Or.inr h
  have hS : va_S A s.heap s.heap [] := va_S.rf
  have hl := lv_entry ([.ref a0.1]) (n := 1) (Nat.le_of_ble_eq_true rfl)
  have hent : entryFrame m args 1 = F0 m 0 ((lg_sl ([.ref a0.1]) ++ List.replicate (1 - (lg_sl ([.ref a0.1])).length) Slot.unset).toArray) [] := by rw [hargs, lg_entry_eq]
  rw [hent]
  clear hent
  generalize (lg_sl ([.ref a0.1]) ++ List.replicate (1 - (lg_sl ([.ref a0.1])).length) Slot.unset).toArray = ls at hl ⊢
  have hl : lv_has ls 1 [(0, .ref a0.1)] := hl
  have lk0 := hts (Cond.fieldLink RX5 19 "EnginesOnList" "now" "LEnginesOnList$World;") (List.mem_of_getElem? (i := 1) rfl)
  have lk1 := va_Nw.use (A := args) rfl (hE.1 _ nw_14)
  have lk2 := hts (Cond.initialized RX1) (List.mem_of_getElem? (i := 3) rfl)
  have lk3 := hts (Cond.instanceMethod yX1_worthBeyondFriend) (List.mem_of_getElem? (i := 2) rfl)
  have lk4 := hts (Cond.selects RX1 yX1_worthBeyondFriend yX1_worthBeyondFriend) (List.mem_of_getElem? (i := 4) rfl)
  have hinX5 : ∀ w ∈ wsX50, w ∈ wsX5_more := by decide +kernel
  have hinX4 : ∀ w ∈ wsX40, w ∈ wsX5_more := by decide +kernel
  have fin : ∀ (pc : Nat) (v : Int32) (H : Heap) (locs : List Loc) (ls : Array Slot), some v = some out → va_P G.1 vwCl (ce_X5 G.2.1 a0 S0) H → va_D A (ce_X5 G.2.1 a0 S0) → va_S A s.heap H locs → decode cX5_more pc = .ok (.ireturn, 1) → W p l e (headSpec wsX5_more rm_X5_more).room s m args below meth c H locs 0 0 (MQ below (QRo G (ce_X5 G.2.1 a0 S0) out A) args s 0 0 A) (F0 m pc ls [.int v]) := fun pc v H locs ls ho hP hD hS hd => W.iret (v := v) hx hb hr (fun t ht hW => ⟨⟨v, (), rfl, Option.some.inj ho, by first | (rw [ht]; exact hP) | (dsimp only; rw [ht]; exact hP)⟩, hS.F ht⟩) hS.2.2 hd
  generalize MQ below (QRo G (ce_X5 G.2.1 a0 S0) out A) args s 0 0 A = Q at fin ⊢
  have go : ∀ (H : Heap) (locs : List Loc), va_P G.1 vwCl (ce_X5 G.2.1 a0 S0) H → va_D A (ce_X5 G.2.1 a0 S0) → va_S A s.heap H locs → ∀ (ls : Array Slot), lv_has ls 1 [(0, .ref a0.1)] → W p l e (headSpec wsX5_more rm_X5_more).room s m args below meth c H locs 0 0 Q (F0 m 0 ls []) := by
    intro H locs hP hD hS ls hl
    refine lv_aload_n hx hb dX5_more_0 rfl (lv_at hl 0 rfl) ?_
    refine va_get (D := G.1) (ci := 5) (v := .ref a0.2.2.1.1) (C := RX5) (T := TX5) (N := 9) hx hb hts hinX5 hown hK hP 0 rfl rfl 1 (by decide) lk0 (fun _ h9 => h9) rfl dX5_more_1 ?_
    refine va_getN (D := G.1) (ci := 4) (v := .ref a0.2.2.1.2.1.1) (C := RX4) (T := TX4) (N := 3) hx hb hts hinX4 hown hK hP 3 rfl rfl 0 (by decide) lk1 (fun _ h9 => h9) rfl dX5_more_4 ?_
    obtain ⟨r1, hr1, hf⟩ := ob_bind hf
    have hPc : va_P G.1 vwCl (ce_X1 G.2.1 a0.2.2.1.2.1 S0.2.1.1) H := hP.sub [4, 5, 6, 7, 8, 9] rfl
    have hDc : va_D A (ce_X1 G.2.1 a0.2.2.1.2.1 S0.2.1.1) := hD.sub [4, 5, 6, 7, 8, 9] (by decide) rfl
    have hFc := va_free (wc := ce_X1 G.2.1 a0.2.2.1.2.1 S0.2.1.1) hD hS hA [4, 5, 6, 7, 8, 9] rfl
    refine zc_ro (va_runVN (As := []) (rest := []) ⟨hx, hb, hml, hown, hts⟩ (c_X1_worthBeyondFriend l G a0.2.2.1.2.1 H.size S0.2.1.1 _ hr1) (⟨va_cnB 0 hts gX5_more_X1_worthBeyondFriend_n174 rfl rfl rfl (hE.1 _ nw_66) lk2 (by decide +kernel) ⟨Nat.le_of_ble_eq_true rfl, Nat.le_of_ble_eq_true rfl⟩, lk3, lk4⟩) ⟨PcM.blind, va_recv hK hPc (ci := 1) (q0 := 0) rfl rfl, PcM.ok hPc hDc hK hE hS hFc⟩ rfl rfl hl.1 rfl (lv_room (Nat.le_of_ble_eq_true rfl)) dX5_more_7 ⟨Nat.le_refl _, Nat.le_refl _⟩) hP hD hS hA [4, 5, 6, 7, 8, 9] rfl (fun H locs hP hS => ?_)
    exact fin _ _ _ _ _ hf hP hD hS dX5_more_10
  exact go _ _ hP hD hS _ hl
abbrev rm_X5_seeds : Room := { frames := 7, cells := 0, slots := 0, locals := 164 }
set_option maxHeartbeats 4000000 in
set_option maxRecDepth 100000 in
theorem c_X5_seeds (l : Launch) (G : zG) (a0 : AT_X5) (sz : Nat) (S0 : ST_X5) (p1 : Int32) (p2 : Int32) (out : Int32 × ST_X5) (hf : f_X5_seeds S0 p1 p2 = some out) : Met l yX5_seeds wsX5_seeds rm_X5_seeds (PcM G (ce_X5 G.2.1 a0 S0) [.ref a0.1, .int p1, .int p2] sz) (QWr G (fun u => ce_X5 G.2.1 a0 u) out (va_A (ce_X5 G.2.1 a0 S0) sz)) 0 0 (va_A (ce_X5 G.2.1 a0 S0) sz) := by
  rw [f_X5_seeds] at hf
  refine Met.ofW (cc := cX5_seeds) (maxL := 3) (ret := (some .int)) (by decide) rfl ?_
  intro p e s m args below meth c s₁ B hml hv
  obtain ⟨hargs, hsz, hP, hK, hD0, hE⟩ := hv
  have hx := B.exec
  have hb := B.bytes
  have hr := B.returns
  have hts := atoms_spec (ws := wsX5_seeds) B.pre
  have hown : s.vm.findClass RX5 = some m.cls := findClass_of_methodNamed B.named
  have hlocks := B.notSynchronized
  subst hsz
  have hD := hD0.self (sz := s.heap.size)
  generalize hAe : va_A (ce_X5 G.2.1 a0 S0) s.heap.size = A at hD hE ⊢
  have hA : ∀ q : Nat, s.heap.size ≤ q → A q := fun q h => by rw [← hAe]; exact Or.inr h
  have hS : va_S A s.heap s.heap [] := va_S.rf
  have hl := lv_entry ([.ref a0.1, .int p1, .int p2]) (n := 3) (Nat.le_of_ble_eq_true rfl)
  have hent : entryFrame m args 3 = F0 m 0 ((lg_sl ([.ref a0.1, .int p1, .int p2]) ++ List.replicate (3 - (lg_sl ([.ref a0.1, .int p1, .int p2])).length) Slot.unset).toArray) [] := by rw [hargs, lg_entry_eq]
  rw [hent]
  clear hent
  generalize (lg_sl ([.ref a0.1, .int p1, .int p2]) ++ List.replicate (3 - (lg_sl ([.ref a0.1, .int p1, .int p2])).length) Slot.unset).toArray = ls at hl ⊢
  have hl : lv_has ls 3 [(0, .ref a0.1), (1, .int p1), (2, .int p2)] := hl
  have lk0 := hts (Cond.fieldLink RX5 19 "EnginesOnList" "now" "LEnginesOnList$World;") (List.mem_of_getElem? (i := 1) rfl)
  have lk1 := hts (Cond.initialized RX4) (List.mem_of_getElem? (i := 9) rfl)
  have lk2 := hts (Cond.instanceMethod yX4_drawnWorth) (List.mem_of_getElem? (i := 8) rfl)
  have lk3 := hts (Cond.selects RX4 yX4_drawnWorth yX4_drawnWorth) (List.mem_of_getElem? (i := 10) rfl)
  have hinX5 : ∀ w ∈ wsX50, w ∈ wsX5_seeds := by decide +kernel
  have fin : ∀ (pc : Nat) (v : Int32) (u : ST_X5) (H : Heap) (locs : List Loc) (ls : Array Slot), some (v, u) = some out → va_P G.1 vwCl (ce_X5 G.2.1 a0 u) H → va_D A (ce_X5 G.2.1 a0 u) → va_S A s.heap H locs → decode cX5_seeds pc = .ok (.ireturn, 1) → W p l e (headSpec wsX5_seeds rm_X5_seeds).room s m args below meth c H locs 0 0 (MQ below (QWr G (fun u => ce_X5 G.2.1 a0 u) out A) args s 0 0 A) (F0 m pc ls [.int v]) := fun pc v u H locs ls ho hP hD hS hd => W.iret (v := v) hx hb hr (fun t ht hW => ⟨⟨v, u, rfl, ob_pair ho, by first | (rw [ht]; exact hP) | (dsimp only; rw [ht]; exact hP), hD⟩, hS.F ht⟩) hS.2.2 hd
  generalize MQ below (QWr G (fun u => ce_X5 G.2.1 a0 u) out A) args s 0 0 A = Q at fin ⊢
  have go : ∀ (H : Heap) (locs : List Loc), va_P G.1 vwCl (ce_X5 G.2.1 a0 S0) H → va_D A (ce_X5 G.2.1 a0 S0) → va_S A s.heap H locs → ∀ (ls : Array Slot), lv_has ls 3 [(0, .ref a0.1), (1, .int p1), (2, .int p2)] → W p l e (headSpec wsX5_seeds rm_X5_seeds).room s m args below meth c H locs 0 0 Q (F0 m 0 ls []) := by
    intro H locs hP hD hS ls hl
    refine lv_iload_n hx hb dX5_seeds_0 rfl (lv_at hl 1 rfl) ?_
    refine lv_iconst (v := 1) hx hb dX5_seeds_1 (by decide) ?_
    refine lv_icmp_ge (tgt := 12) hx hb dX5_seeds_2 (by decide) (fun c1 => ?_) (fun c1 => ?_)
    · replace hf := ob_pos c1 hf
      refine lv_iload_n hx hb dX5_seeds_12 rfl (lv_at hl 1 rfl) ?_
      refine lv_bipush (v := 30) hx hb dX5_seeds_13 (by decide) ?_
      refine lv_icmp_le (tgt := 25) hx hb dX5_seeds_15 (by decide) (fun c2 => ?_) (fun c2 => ?_)
      · replace hf := ob_pos c2 hf
        refine lv_aload_n hx hb dX5_seeds_25 rfl (lv_at hl 0 rfl) ?_
        refine va_get (D := G.1) (ci := 5) (v := .ref a0.2.2.1.1) (C := RX5) (T := TX5) (N := 9) hx hb hts hinX5 hown hK hP 0 rfl rfl 1 (by decide) lk0 (fun _ h9 => h9) rfl dX5_seeds_26 ?_
        refine lv_iload_n hx hb dX5_seeds_29 rfl (lv_at hl 1 rfl) ?_
        refine lv_iload_n hx hb dX5_seeds_30 rfl (lv_at hl 2 rfl) ?_
        obtain ⟨r3, hr3, hf⟩ := ob_bind hf
        have hPc : va_P G.1 vwCl (ce_X4 G.2.1 a0.2.2.1 S0.2.1) H := hP.sub [3, 4, 5, 6, 7, 8, 9, 10, 11, 12, 13, 14] rfl
        have hDc : va_D A (ce_X4 G.2.1 a0.2.2.1 S0.2.1) := hD.sub [3, 4, 5, 6, 7, 8, 9, 10, 11, 12, 13, 14] (by decide) rfl
        have hFc := va_free (wc := ce_X4 G.2.1 a0.2.2.1 S0.2.1) hD hS hA [3, 4, 5, 6, 7, 8, 9, 10, 11, 12, 13, 14] rfl
        refine zc_ro (va_runVN (As := [.int p1, .int p2]) (rest := []) ⟨hx, hb, hml, hown, hts⟩ (c_X4_drawnWorth l G a0.2.2.1 H.size S0.2.1 p1 p2 _ hr3) (⟨va_cnB 2 hts gX5_seeds_X4_drawnWorth_n177 rfl rfl rfl (hE.1 _ nw_67) lk1 (by decide +kernel) ⟨Nat.le_of_ble_eq_true rfl, Nat.le_of_ble_eq_true rfl⟩, lk2, lk3⟩) ⟨PcM.blind, va_recv hK hPc (ci := 4) (q0 := 0) rfl rfl, PcM.ok hPc hDc hK hE hS hFc⟩ rfl rfl hl.1 rfl (lv_room (Nat.le_of_ble_eq_true rfl)) dX5_seeds_31 ⟨Nat.le_refl _, Nat.le_refl _⟩) hP hD hS hA [3, 4, 5, 6, 7, 8, 9, 10, 11, 12, 13, 14] rfl (fun H locs hP hS => ?_)
        exact fin _ _ _ _ _ _ hf hP hD hS dX5_seeds_34
      · replace hf := ob_neg c2 hf
        refine lv_aload_n hx hb dX5_seeds_18 rfl (lv_at hl 0 rfl) ?_
        refine lv_bipush (v := (-6)) hx hb dX5_seeds_19 (by decide) ?_
        obtain ⟨r4, hr4, hf⟩ := ob_bind hf
        have hFc := va_free (wc := ce_X5 G.2.1 a0 S0) hD hS hA [0, 1, 2, 3, 4, 5, 6, 7, 8, 9, 10, 11, 12, 13, 14, 15, 16, 17, 18, 19, 20, 21, 22, 23, 24, 25, 26, 27, 28, 29, 30, 31, 32, 33, 34, 35, 36, 37, 38] rfl
        refine zc_wr (cf := (fun u => ce_X5 G.2.1 a0 u)) (ws' := ce_X5 G.2.1 a0 r4.2) (va_runV (As := [.int (-6)]) (rest := []) ⟨hx, hb, hml, hown, hts⟩ (c_X5_refuse l G a0 H.size S0 (-6) _ hr4) (cwV 1 hts gX5_seeds_X5_refuse rfl rfl rfl (by decide +kernel) ⟨Nat.le_of_ble_eq_true rfl, Nat.le_of_ble_eq_true rfl⟩) ⟨PcM.blind, va_recv hK hP (ci := 5) (q0 := 0) rfl rfl, PcM.ok hP hD hK hE hS hFc⟩ rfl rfl hl.1 rfl (lv_room (Nat.le_of_ble_eq_true rfl)) dX5_seeds_21 ⟨Nat.le_refl _, Nat.le_refl _⟩) hP hD hS hA [0, 1, 2, 3, 4, 5, 6, 7, 8, 9, 10, 11, 12, 13, 14, 15, 16, 17, 18, 19, 20, 21, 22, 23, 24, 25, 26, 27, 28, 29, 30, 31, 32, 33, 34, 35, 36, 37, 38] [] [0, 1, 2, 3, 4, 5, 6, 7, 8, 9, 10, 11, 12, 13, 14, 15, 16, 17, 18, 19, 20, 21, 22, 23, 24, 25, 26, 27, 28, 29, 30, 31, 32, 33, 34, 35, 36, 37, 38] rfl rfl (by decide) (by decide) (by decide) rfl (fun H locs hP hD hS => ?_)
        exact fin _ _ _ _ _ _ hf hP hD hS dX5_seeds_24
    · replace hf := ob_neg c1 hf
      refine lv_aload_n hx hb dX5_seeds_5 rfl (lv_at hl 0 rfl) ?_
      refine lv_bipush (v := (-4)) hx hb dX5_seeds_6 (by decide) ?_
      obtain ⟨r5, hr5, hf⟩ := ob_bind hf
      have hFc := va_free (wc := ce_X5 G.2.1 a0 S0) hD hS hA [0, 1, 2, 3, 4, 5, 6, 7, 8, 9, 10, 11, 12, 13, 14, 15, 16, 17, 18, 19, 20, 21, 22, 23, 24, 25, 26, 27, 28, 29, 30, 31, 32, 33, 34, 35, 36, 37, 38] rfl
      refine zc_wr (cf := (fun u => ce_X5 G.2.1 a0 u)) (ws' := ce_X5 G.2.1 a0 r5.2) (va_runV (As := [.int (-4)]) (rest := []) ⟨hx, hb, hml, hown, hts⟩ (c_X5_refuse l G a0 H.size S0 (-4) _ hr5) (cwV 1 hts gX5_seeds_X5_refuse rfl rfl rfl (by decide +kernel) ⟨Nat.le_of_ble_eq_true rfl, Nat.le_of_ble_eq_true rfl⟩) ⟨PcM.blind, va_recv hK hP (ci := 5) (q0 := 0) rfl rfl, PcM.ok hP hD hK hE hS hFc⟩ rfl rfl hl.1 rfl (lv_room (Nat.le_of_ble_eq_true rfl)) dX5_seeds_8 ⟨Nat.le_refl _, Nat.le_refl _⟩) hP hD hS hA [0, 1, 2, 3, 4, 5, 6, 7, 8, 9, 10, 11, 12, 13, 14, 15, 16, 17, 18, 19, 20, 21, 22, 23, 24, 25, 26, 27, 28, 29, 30, 31, 32, 33, 34, 35, 36, 37, 38] [] [0, 1, 2, 3, 4, 5, 6, 7, 8, 9, 10, 11, 12, 13, 14, 15, 16, 17, 18, 19, 20, 21, 22, 23, 24, 25, 26, 27, 28, 29, 30, 31, 32, 33, 34, 35, 36, 37, 38] rfl rfl (by decide) (by decide) (by decide) rfl (fun H locs hP hD hS => ?_)
      exact fin _ _ _ _ _ _ hf hP hD hS dX5_seeds_11
  exact go _ _ hP hD hS _ hl
abbrev rm_X5_row : Room := { frames := 2, cells := 0, slots := 0, locals := 45 }
set_option maxHeartbeats 4000000 in
set_option maxRecDepth 100000 in
theorem c_X5_row (l : Launch) (G : zG) (a0 : AT_X5) (sz : Nat) (S0 : ST_X5) (p1 : Int32) (out : Int32 × ST_X5) (hf : f_X5_row S0 p1 = some out) : Met l yX5_row wsX5_row rm_X5_row (PcM G (ce_X5 G.2.1 a0 S0) [.ref a0.1, .int p1] sz) (QWr G (fun u => ce_X5 G.2.1 a0 u) out (va_A (ce_X5 G.2.1 a0 S0) sz)) 0 0 (va_A (ce_X5 G.2.1 a0 S0) sz) := by
  rw [f_X5_row] at hf
  refine Met.ofW (cc := cX5_row) (maxL := 2) (ret := (some .int)) (by decide) rfl ?_
  intro p e s m args below meth c s₁ B hml hv
  obtain ⟨hargs, hsz, hP, hK, hD0, hE⟩ := hv
  have hx := B.exec
  have hb := B.bytes
  have hr := B.returns
  have hts := atoms_spec (ws := wsX5_row) B.pre
  have hown : s.vm.findClass RX5 = some m.cls := findClass_of_methodNamed B.named
  have hlocks := B.notSynchronized
  subst hsz
  have hD := hD0.self (sz := s.heap.size)
  generalize hAe : va_A (ce_X5 G.2.1 a0 S0) s.heap.size = A at hD hE ⊢
  have hA : ∀ q : Nat, s.heap.size ≤ q → A q := fun q h => by rw [← hAe]; exact Or.inr h
  have hS : va_S A s.heap s.heap [] := va_S.rf
  have hl := lv_entry ([.ref a0.1, .int p1]) (n := 2) (Nat.le_of_ble_eq_true rfl)
  have hent : entryFrame m args 2 = F0 m 0 ((lg_sl ([.ref a0.1, .int p1]) ++ List.replicate (2 - (lg_sl ([.ref a0.1, .int p1])).length) Slot.unset).toArray) [] := by rw [hargs, lg_entry_eq]
  rw [hent]
  clear hent
  generalize (lg_sl ([.ref a0.1, .int p1]) ++ List.replicate (2 - (lg_sl ([.ref a0.1, .int p1])).length) Slot.unset).toArray = ls at hl ⊢
  have hl : lv_has ls 2 [(0, .ref a0.1), (1, .int p1)] := hl
  have lk0 := hts (Cond.fieldLink RX5 180 "EnginesOnList" "toldSize" "I") (List.mem_of_getElem? (i := 1) rfl)
  have lk1 := hts (Cond.fieldLink RX5 40 "EnginesOnList" "told" "[I") (List.mem_of_getElem? (i := 2) rfl)
  have hinX5 : ∀ w ∈ wsX50, w ∈ wsX5_row := by decide +kernel
  have fin : ∀ (pc : Nat) (v : Int32) (u : ST_X5) (H : Heap) (locs : List Loc) (ls : Array Slot), some (v, u) = some out → va_P G.1 vwCl (ce_X5 G.2.1 a0 u) H → va_D A (ce_X5 G.2.1 a0 u) → va_S A s.heap H locs → decode cX5_row pc = .ok (.ireturn, 1) → W p l e (headSpec wsX5_row rm_X5_row).room s m args below meth c H locs 0 0 (MQ below (QWr G (fun u => ce_X5 G.2.1 a0 u) out A) args s 0 0 A) (F0 m pc ls [.int v]) := fun pc v u H locs ls ho hP hD hS hd => W.iret (v := v) hx hb hr (fun t ht hW => ⟨⟨v, u, rfl, ob_pair ho, by first | (rw [ht]; exact hP) | (dsimp only; rw [ht]; exact hP), hD⟩, hS.F ht⟩) hS.2.2 hd
  generalize MQ below (QWr G (fun u => ce_X5 G.2.1 a0 u) out A) args s 0 0 A = Q at fin ⊢
  have blk26 : ∀ (S0 : ST_X5), f_X5_row_b26 S0 = some out → ∀ (H : Heap) (locs : List Loc), va_P G.1 vwCl (ce_X5 G.2.1 a0 S0) H → va_D A (ce_X5 G.2.1 a0 S0) → va_S A s.heap H locs → ∀ (ls : Array Slot), lv_has ls 2 [(0, .ref a0.1)] → W p l e (headSpec wsX5_row rm_X5_row).room s m args below meth c H locs 0 0 Q (F0 m 26 ls []) := by
    intro S0 hf H locs hP hD hS ls hl
    rw [f_X5_row_b26] at hf
    refine lv_aload_n hx hb dX5_row_26 rfl (lv_at hl 0 rfl) ?_
    refine lv_bipush (v := (-6)) hx hb dX5_row_27 (by decide) ?_
    obtain ⟨r1, hr1, hf⟩ := ob_bind hf
    have hFc := va_free (wc := ce_X5 G.2.1 a0 S0) hD hS hA [0, 1, 2, 3, 4, 5, 6, 7, 8, 9, 10, 11, 12, 13, 14, 15, 16, 17, 18, 19, 20, 21, 22, 23, 24, 25, 26, 27, 28, 29, 30, 31, 32, 33, 34, 35, 36, 37, 38] rfl
    refine zc_wr (cf := (fun u => ce_X5 G.2.1 a0 u)) (ws' := ce_X5 G.2.1 a0 r1.2) (va_runV (As := [.int (-6)]) (rest := []) ⟨hx, hb, hml, hown, hts⟩ (c_X5_refuse l G a0 H.size S0 (-6) _ hr1) (cwV 1 hts gX5_row_X5_refuse rfl rfl rfl (by decide +kernel) ⟨Nat.le_of_ble_eq_true rfl, Nat.le_of_ble_eq_true rfl⟩) ⟨PcM.blind, va_recv hK hP (ci := 5) (q0 := 0) rfl rfl, PcM.ok hP hD hK hE hS hFc⟩ rfl rfl hl.1 rfl (lv_room (Nat.le_of_ble_eq_true rfl)) dX5_row_29 ⟨Nat.le_refl _, Nat.le_refl _⟩) hP hD hS hA [0, 1, 2, 3, 4, 5, 6, 7, 8, 9, 10, 11, 12, 13, 14, 15, 16, 17, 18, 19, 20, 21, 22, 23, 24, 25, 26, 27, 28, 29, 30, 31, 32, 33, 34, 35, 36, 37, 38] [] [0, 1, 2, 3, 4, 5, 6, 7, 8, 9, 10, 11, 12, 13, 14, 15, 16, 17, 18, 19, 20, 21, 22, 23, 24, 25, 26, 27, 28, 29, 30, 31, 32, 33, 34, 35, 36, 37, 38] rfl rfl (by decide) (by decide) (by decide) rfl (fun H locs hP hD hS => ?_)
    exact fin _ _ _ _ _ _ hf hP hD hS dX5_row_32
  have go : ∀ (H : Heap) (locs : List Loc), va_P G.1 vwCl (ce_X5 G.2.1 a0 S0) H → va_D A (ce_X5 G.2.1 a0 S0) → va_S A s.heap H locs → ∀ (ls : Array Slot), lv_has ls 2 [(0, .ref a0.1), (1, .int p1)] → W p l e (headSpec wsX5_row rm_X5_row).room s m args below meth c H locs 0 0 Q (F0 m 0 ls []) := by
    intro H locs hP hD hS ls hl
    refine lv_iload_n hx hb dX5_row_0 rfl (lv_at hl 1 rfl) ?_
    refine lv_if_ge (tgt := 11) hx hb dX5_row_1 (by decide) (fun c2 => ?_) (fun c2 => ?_)
    · replace hf := ob_pos c2 hf
      refine lv_iload_n hx hb dX5_row_11 rfl (lv_at hl 1 rfl) ?_
      refine lv_bipush (v := 9) hx hb dX5_row_12 (by decide) ?_
      refine lv_icmp_gt (tgt := 26) hx hb dX5_row_14 (by decide) (fun c3 => ?_) (fun c3 => ?_)
      · replace hf := ob_pos c3 hf
        exact blk26 _ hf _ _ hP hD hS _ (lv_sub hl [0] rfl)
      · replace hf := ob_neg c3 hf
        refine lv_aload_n hx hb dX5_row_17 rfl (lv_at hl 0 rfl) ?_
        refine va_get (D := G.1) (ci := 5) (v := .int S0.2.2.2.2.2.2.2.1) (C := RX5) (T := TX5) (N := 9) hx hb hts hinX5 hown hK hP 0 rfl rfl 7 (by decide) lk0 (fun _ h9 => h9) rfl dX5_row_18 ?_
        refine lv_bipush (v := 14) hx hb dX5_row_21 (by decide) ?_
        refine lv_icmp_lt (tgt := 33) hx hb dX5_row_23 (by decide) (fun c4 => ?_) (fun c4 => ?_)
        · replace hf := ob_pos c4 hf
          refine lv_aload_n hx hb dX5_row_33 rfl (lv_at hl 0 rfl) ?_
          refine va_get (D := G.1) (ci := 5) (v := .ref a0.2.2.2.2.2.2.1) (C := RX5) (T := TX5) (N := 9) hx hb hts hinX5 hown hK hP 0 rfl rfl 6 (by decide) lk1 (fun _ h9 => h9) rfl dX5_row_34 ?_
          refine lv_aload_n hx hb dX5_row_37 rfl (lv_at hl 0 rfl) ?_
          refine va_get (D := G.1) (ci := 5) (v := .int S0.2.2.2.2.2.2.2.1) (C := RX5) (T := TX5) (N := 9) hx hb hts hinX5 hown hK hP 0 rfl rfl 7 (by decide) lk0 (fun _ h9 => h9) rfl dX5_row_38 ?_
          refine lv_iload_n hx hb dX5_row_41 rfl (lv_at hl 1 rfl) ?_
          obtain ⟨hg5, hf⟩ := ob_guard hf
          refine va_iast hx hb hK hP hD hS 37 0 rfl rfl hg5 dX5_row_42 (fun H locs hP hD hS => ?_)
          have hP : va_P G.1 vwCl (ce_X5 G.2.1 a0 (S0.1, S0.2.1, S0.2.2.1, S0.2.2.2.1, S0.2.2.2.2.1, S0.2.2.2.2.2.1, (upd S0.2.2.2.2.2.2.1 (S0.2.2.2.2.2.2.2.1.toNatClampNeg) p1), S0.2.2.2.2.2.2.2.1, S0.2.2.2.2.2.2.2.2)) H := hP
          have hD : va_D A (ce_X5 G.2.1 a0 (S0.1, S0.2.1, S0.2.2.1, S0.2.2.2.1, S0.2.2.2.2.1, S0.2.2.2.2.2.1, (upd S0.2.2.2.2.2.2.1 (S0.2.2.2.2.2.2.2.1.toNatClampNeg) p1), S0.2.2.2.2.2.2.2.1, S0.2.2.2.2.2.2.2.2)) := hD
          refine lv_aload_n hx hb dX5_row_43 rfl (lv_at hl 0 rfl) ?_
          refine lv_dup hx hb dX5_row_44 rfl ?_
          refine va_get (D := G.1) (ci := 5) (v := .int S0.2.2.2.2.2.2.2.1) (C := RX5) (T := TX5) (N := 9) hx hb hts hinX5 hown hK hP 0 rfl rfl 7 (by decide) lk0 (fun _ h9 => h9) rfl dX5_row_45 ?_
          refine lv_iconst (v := 1) hx hb dX5_row_48 (by decide) ?_
          refine lv_iadd hx hb dX5_row_49 ?_
          refine va_put (D := G.1) (ci := 5) (v := .int (S0.2.2.2.2.2.2.2.1 + 1)) (ty := .int) (C := RX5) (T := TX5) (N := 9) hx hb hts hinX5 tyX5 tyX5_ok nmX5 hown hK hP hD hS 0 rfl rfl 7 (by decide) lk0 (fun _ h9 => h9) rfl (by decide +kernel) rfl rfl (Nat.le_of_ble_eq_true rfl) dX5_row_50 (fun H locs hP hD hS => ?_)
          have hP : va_P G.1 vwCl (ce_X5 G.2.1 a0 (S0.1, S0.2.1, S0.2.2.1, S0.2.2.2.1, S0.2.2.2.2.1, S0.2.2.2.2.2.1, (upd S0.2.2.2.2.2.2.1 (S0.2.2.2.2.2.2.2.1.toNatClampNeg) p1), S0.2.2.2.2.2.2.2.1 + 1, S0.2.2.2.2.2.2.2.2)) H := hP
          have hD : va_D A (ce_X5 G.2.1 a0 (S0.1, S0.2.1, S0.2.2.1, S0.2.2.2.1, S0.2.2.2.2.1, S0.2.2.2.2.2.1, (upd S0.2.2.2.2.2.2.1 (S0.2.2.2.2.2.2.2.1.toNatClampNeg) p1), S0.2.2.2.2.2.2.2.1 + 1, S0.2.2.2.2.2.2.2.2)) := hD
          refine lv_aload_n hx hb dX5_row_53 rfl (lv_at hl 0 rfl) ?_
          refine va_get (D := G.1) (ci := 5) (v := .int (S0.2.2.2.2.2.2.2.1 + 1)) (C := RX5) (T := TX5) (N := 9) hx hb hts hinX5 hown hK hP 0 rfl rfl 7 (by decide) lk0 (fun _ h9 => h9) rfl dX5_row_54 ?_
          exact fin _ _ _ _ _ _ hf hP hD hS dX5_row_57
        · replace hf := ob_neg c4 hf
          exact blk26 _ hf _ _ hP hD hS _ (lv_sub hl [0] rfl)
    · replace hf := ob_neg c2 hf
      refine lv_aload_n hx hb dX5_row_4 rfl (lv_at hl 0 rfl) ?_
      refine lv_bipush (v := (-4)) hx hb dX5_row_5 (by decide) ?_
      obtain ⟨r6, hr6, hf⟩ := ob_bind hf
      have hFc := va_free (wc := ce_X5 G.2.1 a0 S0) hD hS hA [0, 1, 2, 3, 4, 5, 6, 7, 8, 9, 10, 11, 12, 13, 14, 15, 16, 17, 18, 19, 20, 21, 22, 23, 24, 25, 26, 27, 28, 29, 30, 31, 32, 33, 34, 35, 36, 37, 38] rfl
      refine zc_wr (cf := (fun u => ce_X5 G.2.1 a0 u)) (ws' := ce_X5 G.2.1 a0 r6.2) (va_runV (As := [.int (-4)]) (rest := []) ⟨hx, hb, hml, hown, hts⟩ (c_X5_refuse l G a0 H.size S0 (-4) _ hr6) (cwV 1 hts gX5_row_X5_refuse rfl rfl rfl (by decide +kernel) ⟨Nat.le_of_ble_eq_true rfl, Nat.le_of_ble_eq_true rfl⟩) ⟨PcM.blind, va_recv hK hP (ci := 5) (q0 := 0) rfl rfl, PcM.ok hP hD hK hE hS hFc⟩ rfl rfl hl.1 rfl (lv_room (Nat.le_of_ble_eq_true rfl)) dX5_row_7 ⟨Nat.le_refl _, Nat.le_refl _⟩) hP hD hS hA [0, 1, 2, 3, 4, 5, 6, 7, 8, 9, 10, 11, 12, 13, 14, 15, 16, 17, 18, 19, 20, 21, 22, 23, 24, 25, 26, 27, 28, 29, 30, 31, 32, 33, 34, 35, 36, 37, 38] [] [0, 1, 2, 3, 4, 5, 6, 7, 8, 9, 10, 11, 12, 13, 14, 15, 16, 17, 18, 19, 20, 21, 22, 23, 24, 25, 26, 27, 28, 29, 30, 31, 32, 33, 34, 35, 36, 37, 38] rfl rfl (by decide) (by decide) (by decide) rfl (fun H locs hP hD hS => ?_)
      exact fin _ _ _ _ _ _ hf hP hD hS dX5_row_10
  exact go _ _ hP hD hS _ hl
abbrev rm_X5_judge : Room := { frames := 4, cells := 0, slots := 0, locals := 93 }
set_option maxHeartbeats 4000000 in
set_option maxRecDepth 100000 in
theorem c_X5_judge (l : Launch) (G : zG) (a0 : AT_X5) (sz : Nat) (S0 : ST_X5) (p1 : Int32) (out : Int32 × ST_X5) (hf : f_X5_judge S0 p1 = some out) : Met l yX5_judge wsX5_judge rm_X5_judge (PcM G (ce_X5 G.2.1 a0 S0) [.ref a0.1, .int p1] sz) (QWr G (fun u => ce_X5 G.2.1 a0 u) out (va_A (ce_X5 G.2.1 a0 S0) sz)) 0 0 (va_A (ce_X5 G.2.1 a0 S0) sz) := by
  rw [f_X5_judge] at hf
  refine Met.ofW (cc := cX5_judge) (maxL := 4) (ret := (some .int)) (by decide) rfl ?_
  intro p e s m args below meth c s₁ B hml hv
  obtain ⟨hargs, hsz, hP, hK, hD0, hE⟩ := hv
  have hx := B.exec
  have hb := B.bytes
  have hr := B.returns
  have hts := atoms_spec (ws := wsX5_judge) B.pre
  have hown : s.vm.findClass RX5 = some m.cls := findClass_of_methodNamed B.named
  have hlocks := B.notSynchronized
  subst hsz
  have hD := hD0.self (sz := s.heap.size)
  generalize hAe : va_A (ce_X5 G.2.1 a0 S0) s.heap.size = A at hD hE ⊢
  have hA : ∀ q : Nat, s.heap.size ≤ q → A q := fun q h => by rw [← hAe]; exact Or.inr h
  have hS : va_S A s.heap s.heap [] := va_S.rf
  have hl := lv_entry ([.ref a0.1, .int p1]) (n := 4) (Nat.le_of_ble_eq_true rfl)
  have hent : entryFrame m args 4 = F0 m 0 ((lg_sl ([.ref a0.1, .int p1]) ++ List.replicate (4 - (lg_sl ([.ref a0.1, .int p1])).length) Slot.unset).toArray) [] := by rw [hargs, lg_entry_eq]
  rw [hent]
  clear hent
  generalize (lg_sl ([.ref a0.1, .int p1]) ++ List.replicate (4 - (lg_sl ([.ref a0.1, .int p1])).length) Slot.unset).toArray = ls at hl ⊢
  have hl : lv_has ls 4 [(0, .ref a0.1), (1, .int p1)] := hl
  have lk0 := hts (Cond.fieldLink RX5 40 "EnginesOnList" "told" "[I") (List.mem_of_getElem? (i := 3) rfl)
  have lk1 := hts (Cond.fieldLink RX5 19 "EnginesOnList" "now" "LEnginesOnList$World;") (List.mem_of_getElem? (i := 1) rfl)
  have lk2 := va_Nw.use (A := args) rfl (hE.1 _ nw_14)
  have lk3 := va_Nw.use (A := args) rfl (hE.1 _ nw_17)
  have lk4 := hts (Cond.initialized RX1) (List.mem_of_getElem? (i := 5) rfl)
  have lk5 := hts (Cond.instanceMethod yX1_placeOn) (List.mem_of_getElem? (i := 15) rfl)
  have lk6 := hts (Cond.selects RX1 yX1_placeOn yX1_placeOn) (List.mem_of_getElem? (i := 16) rfl)
  have lk7 := hts (Cond.instanceMethod yX1_knows) (List.mem_of_getElem? (i := 4) rfl)
  have lk8 := hts (Cond.selects RX1 yX1_knows yX1_knows) (List.mem_of_getElem? (i := 6) rfl)
  have lk9 := hts (Cond.fieldLink RX5 180 "EnginesOnList" "toldSize" "I") (List.mem_of_getElem? (i := 2) rfl)
  have hinX5 : ∀ w ∈ wsX50, w ∈ wsX5_judge := by decide +kernel
  have hinX4 : ∀ w ∈ wsX40, w ∈ wsX5_judge := by decide +kernel
  have fin : ∀ (pc : Nat) (v : Int32) (u : ST_X5) (H : Heap) (locs : List Loc) (ls : Array Slot), some (v, u) = some out → va_P G.1 vwCl (ce_X5 G.2.1 a0 u) H → va_D A (ce_X5 G.2.1 a0 u) → va_S A s.heap H locs → decode cX5_judge pc = .ok (.ireturn, 1) → W p l e (headSpec wsX5_judge rm_X5_judge).room s m args below meth c H locs 0 0 (MQ below (QWr G (fun u => ce_X5 G.2.1 a0 u) out A) args s 0 0 A) (F0 m pc ls [.int v]) := fun pc v u H locs ls ho hP hD hS hd => W.iret (v := v) hx hb hr (fun t ht hW => ⟨⟨v, u, rfl, ob_pair ho, by first | (rw [ht]; exact hP) | (dsimp only; rw [ht]; exact hP), hD⟩, hS.F ht⟩) hS.2.2 hd
  generalize MQ below (QWr G (fun u => ce_X5 G.2.1 a0 u) out A) args s 0 0 A = Q at fin ⊢
  have blk80 : ∀ (S0 : ST_X5), f_X5_judge_b80 S0 = some out → ∀ (H : Heap) (locs : List Loc), va_P G.1 vwCl (ce_X5 G.2.1 a0 S0) H → va_D A (ce_X5 G.2.1 a0 S0) → va_S A s.heap H locs → ∀ (ls : Array Slot), lv_has ls 4 [] → W p l e (headSpec wsX5_judge rm_X5_judge).room s m args below meth c H locs 0 0 Q (F0 m 80 ls []) := by
    intro S0 hf H locs hP hD hS ls hl
    rw [f_X5_judge_b80] at hf
    refine lv_bipush (v := (-9)) hx hb dX5_judge_80 (by decide) ?_
    exact fin _ _ _ _ _ _ hf hP hD hS dX5_judge_82
  have blk32 : ∀ (fu32 : Nat), ∀ (S0 : ST_X5) (v1 : Int32) (v2 : Int32) (v3 : Int32), f_X5_judge_b32 fu32 S0 v1 v2 v3 = some out → ∀ (H : Heap) (locs : List Loc), va_P G.1 vwCl (ce_X5 G.2.1 a0 S0) H → va_D A (ce_X5 G.2.1 a0 S0) → va_S A s.heap H locs → ∀ (ls : Array Slot), lv_has ls 4 [(0, .ref a0.1), (1, .int v1), (2, .int v2), (3, .int v3)] → W p l e (headSpec wsX5_judge rm_X5_judge).room s m args below meth c H locs 0 0 Q (F0 m 32 ls []) := by
    intro fu32
    induction fu32 with
    | zero => intro S0 v1 v2 v3 hf; exact ob_none hf
    | succ fu32 ih32 =>
      intro S0 v1 v2 v3 hf H locs hP hD hS ls hl
      rw [f_X5_judge_b32] at hf
      refine lv_iload_n hx hb dX5_judge_32 rfl (lv_at hl 3 rfl) ?_
      refine lv_iload_n hx hb dX5_judge_33 rfl (lv_at hl 2 rfl) ?_
      refine lv_icmp_ge (tgt := 80) hx hb dX5_judge_34 (by decide) (fun c1 => ?_) (fun c1 => ?_)
      · replace hf := ob_pos c1 hf
        exact blk80 _ hf _ _ hP hD hS _ (lv_sub hl [] rfl)
      · replace hf := ob_neg c1 hf
        refine lv_iload_n hx hb dX5_judge_37 rfl (lv_at hl 3 rfl) ?_
        refine lv_bipush (v := 14) hx hb dX5_judge_38 (by decide) ?_
        refine lv_icmp_ge (tgt := 80) hx hb dX5_judge_40 (by decide) (fun c2 => ?_) (fun c2 => ?_)
        · replace hf := ob_pos c2 hf
          exact blk80 _ hf _ _ hP hD hS _ (lv_sub hl [] rfl)
        · replace hf := ob_neg c2 hf
          refine lv_aload_n hx hb dX5_judge_43 rfl (lv_at hl 0 rfl) ?_
          refine va_get (D := G.1) (ci := 5) (v := .ref a0.2.2.2.2.2.2.1) (C := RX5) (T := TX5) (N := 9) hx hb hts hinX5 hown hK hP 0 rfl rfl 6 (by decide) lk0 (fun _ h9 => h9) rfl dX5_judge_44 ?_
          refine lv_iload_n hx hb dX5_judge_47 rfl (lv_at hl 3 rfl) ?_
          obtain ⟨hg3, hf⟩ := ob_guard hf
          refine va_iald hx hb hK hP 37 0 rfl rfl hg3 dX5_judge_48 ?_
          refine lv_aload_n hx hb dX5_judge_49 rfl (lv_at hl 0 rfl) ?_
          refine va_get (D := G.1) (ci := 5) (v := .ref a0.2.2.1.1) (C := RX5) (T := TX5) (N := 9) hx hb hts hinX5 hown hK hP 0 rfl rfl 1 (by decide) lk1 (fun _ h9 => h9) rfl dX5_judge_50 ?_
          refine va_getN (D := G.1) (ci := 4) (v := .ref a0.2.2.1.2.1.1) (C := RX4) (T := TX4) (N := 3) hx hb hts hinX4 hown hK hP 3 rfl rfl 0 (by decide) lk2 (fun _ h9 => h9) rfl dX5_judge_53 ?_
          refine lv_iload_n hx hb dX5_judge_56 rfl (lv_at hl 1 rfl) ?_
          refine lv_aload_n hx hb dX5_judge_57 rfl (lv_at hl 0 rfl) ?_
          refine va_get (D := G.1) (ci := 5) (v := .ref a0.2.2.1.1) (C := RX5) (T := TX5) (N := 9) hx hb hts hinX5 hown hK hP 0 rfl rfl 1 (by decide) lk1 (fun _ h9 => h9) rfl dX5_judge_58 ?_
          refine va_getN (D := G.1) (ci := 4) (v := .int S0.2.1.2.2) (C := RX4) (T := TX4) (N := 3) hx hb hts hinX4 hown hK hP 3 rfl rfl 2 (by decide) lk3 (fun _ h9 => h9) rfl dX5_judge_61 ?_
          refine lv_iload_n hx hb dX5_judge_64 rfl (lv_at hl 3 rfl) ?_
          refine lv_iadd hx hb dX5_judge_65 ?_
          obtain ⟨r4, hr4, hf⟩ := ob_bind hf
          have hPc : va_P G.1 vwCl (ce_X1 G.2.1 a0.2.2.1.2.1 S0.2.1.1) H := hP.sub [4, 5, 6, 7, 8, 9] rfl
          have hDc : va_D A (ce_X1 G.2.1 a0.2.2.1.2.1 S0.2.1.1) := hD.sub [4, 5, 6, 7, 8, 9] (by decide) rfl
          have hFc := va_free (wc := ce_X1 G.2.1 a0.2.2.1.2.1 S0.2.1.1) hD hS hA [4, 5, 6, 7, 8, 9] rfl
          refine zc_ro (va_runVN (As := [.int v1, .int (S0.2.1.2.2 + v3)]) (rest := [.int (S0.2.2.2.2.2.2.1 v3.toNatClampNeg)]) ⟨hx, hb, hml, hown, hts⟩ (c_X1_placeOn l G a0.2.2.1.2.1 H.size S0.2.1.1 v1 (S0.2.1.2.2 + v3) _ hr4) (⟨va_cnB 2 hts gX5_judge_X1_placeOn_n95 rfl rfl rfl (hE.1 _ nw_40) lk4 (by decide +kernel) ⟨Nat.le_of_ble_eq_true rfl, Nat.le_of_ble_eq_true rfl⟩, lk5, lk6⟩) ⟨PcM.blind, va_recv hK hPc (ci := 1) (q0 := 0) rfl rfl, PcM.ok hPc hDc hK hE hS hFc⟩ rfl rfl hl.1 rfl (lv_room (Nat.le_of_ble_eq_true rfl)) dX5_judge_66 ⟨Nat.le_refl _, Nat.le_refl _⟩) hP hD hS hA [4, 5, 6, 7, 8, 9] rfl (fun H locs hP hS => ?_)
          refine lv_icmp_eq (tgt := 74) hx hb dX5_judge_69 (by decide) (fun c5 => ?_) (fun c5 => ?_)
          · replace hf := ob_pos c5 hf
            refine lv_iinc (v := v3 + 1) (lv' := [(3, .int (v3 + 1)), (0, .ref a0.1), (1, .int v1), (2, .int v2)]) hx hb dX5_judge_74 hl (k := 3) rfl rfl (by decide) rfl (fun ls hl => ?_)
            refine lv_goto (tgt := 32) hx hb dX5_judge_77 (by decide) ?_
            exact ih32 _ _ _ _ hf _ _ hP hD hS _ (lv_sub hl [1, 2, 3, 0] rfl)
          · replace hf := ob_neg c5 hf
            refine lv_iload_n hx hb dX5_judge_72 rfl (lv_at hl 3 rfl) ?_
            exact fin _ _ _ _ _ _ hf hP hD hS dX5_judge_73
  have go : ∀ (H : Heap) (locs : List Loc), va_P G.1 vwCl (ce_X5 G.2.1 a0 S0) H → va_D A (ce_X5 G.2.1 a0 S0) → va_S A s.heap H locs → ∀ (ls : Array Slot), lv_has ls 4 [(0, .ref a0.1), (1, .int p1)] → W p l e (headSpec wsX5_judge rm_X5_judge).room s m args below meth c H locs 0 0 Q (F0 m 0 ls []) := by
    intro H locs hP hD hS ls hl
    refine lv_aload_n hx hb dX5_judge_0 rfl (lv_at hl 0 rfl) ?_
    refine va_get (D := G.1) (ci := 5) (v := .ref a0.2.2.1.1) (C := RX5) (T := TX5) (N := 9) hx hb hts hinX5 hown hK hP 0 rfl rfl 1 (by decide) lk1 (fun _ h9 => h9) rfl dX5_judge_1 ?_
    refine va_getN (D := G.1) (ci := 4) (v := .ref a0.2.2.1.2.1.1) (C := RX4) (T := TX4) (N := 3) hx hb hts hinX4 hown hK hP 3 rfl rfl 0 (by decide) lk2 (fun _ h9 => h9) rfl dX5_judge_4 ?_
    refine lv_iload_n hx hb dX5_judge_7 rfl (lv_at hl 1 rfl) ?_
    obtain ⟨r6, hr6, hf⟩ := ob_bind hf
    have hPc : va_P G.1 vwCl (ce_X1 G.2.1 a0.2.2.1.2.1 S0.2.1.1) H := hP.sub [4, 5, 6, 7, 8, 9] rfl
    have hDc : va_D A (ce_X1 G.2.1 a0.2.2.1.2.1 S0.2.1.1) := hD.sub [4, 5, 6, 7, 8, 9] (by decide) rfl
    have hFc := va_free (wc := ce_X1 G.2.1 a0.2.2.1.2.1 S0.2.1.1) hD hS hA [4, 5, 6, 7, 8, 9] rfl
    refine zc_ro (va_runVN (As := [.int p1]) (rest := []) ⟨hx, hb, hml, hown, hts⟩ (c_X1_knows l G a0.2.2.1.2.1 H.size S0.2.1.1 p1 _ hr6) (⟨va_cnB 1 hts gX5_judge_X1_knows_n66 rfl rfl rfl (hE.1 _ nw_36) lk4 (by decide +kernel) ⟨Nat.le_of_ble_eq_true rfl, Nat.le_of_ble_eq_true rfl⟩, lk7, lk8⟩) ⟨PcM.blind, va_recv hK hPc (ci := 1) (q0 := 0) rfl rfl, PcM.ok hPc hDc hK hE hS hFc⟩ rfl rfl hl.1 rfl (lv_room (Nat.le_of_ble_eq_true rfl)) dX5_judge_8 ⟨Nat.le_refl _, Nat.le_refl _⟩) hP hD hS hA [4, 5, 6, 7, 8, 9] rfl (fun H locs hP hS => ?_)
    refine lv_if_ne (tgt := 20) hx hb dX5_judge_11 (by decide) (fun c7 => ?_) (fun c7 => ?_)
    · replace hf := ob_neg c7 hf
      refine lv_aload_n hx hb dX5_judge_20 rfl (lv_at hl 0 rfl) ?_
      refine va_get (D := G.1) (ci := 5) (v := .int S0.2.2.2.2.2.2.2.1) (C := RX5) (T := TX5) (N := 9) hx hb hts hinX5 hown hK hP 0 rfl rfl 7 (by decide) lk9 (fun _ h9 => h9) rfl dX5_judge_21 ?_
      refine lv_istore_n (lv' := [(2, .int S0.2.2.2.2.2.2.2.1), (0, .ref a0.1), (1, .int p1)]) hx hb dX5_judge_24 rfl hl (by decide) rfl (fun ls hl => ?_)
      refine lv_aload_n hx hb dX5_judge_25 rfl (lv_at hl 1 rfl) ?_
      refine lv_iconst (v := 0) hx hb dX5_judge_26 (by decide) ?_
      refine va_put (D := G.1) (ci := 5) (v := .int 0) (ty := .int) (C := RX5) (T := TX5) (N := 9) hx hb hts hinX5 tyX5 tyX5_ok nmX5 hown hK hP hD hS 0 rfl rfl 7 (by decide) lk9 (fun _ h9 => h9) rfl (by decide +kernel) rfl rfl (Nat.le_of_ble_eq_true rfl) dX5_judge_27 (fun H locs hP hD hS => ?_)
      have hP : va_P G.1 vwCl (ce_X5 G.2.1 a0 (S0.1, S0.2.1, S0.2.2.1, S0.2.2.2.1, S0.2.2.2.2.1, S0.2.2.2.2.2.1, S0.2.2.2.2.2.2.1, 0, S0.2.2.2.2.2.2.2.2)) H := hP
      have hD : va_D A (ce_X5 G.2.1 a0 (S0.1, S0.2.1, S0.2.2.1, S0.2.2.2.1, S0.2.2.2.2.1, S0.2.2.2.2.2.1, S0.2.2.2.2.2.2.1, 0, S0.2.2.2.2.2.2.2.2)) := hD
      refine lv_iconst (v := 0) hx hb dX5_judge_30 (by decide) ?_
      refine lv_istore_n (lv' := [(3, .int 0), (2, .int S0.2.2.2.2.2.2.2.1), (0, .ref a0.1), (1, .int p1)]) hx hb dX5_judge_31 rfl hl (by decide) rfl (fun ls hl => ?_)
      exact blk32 4096 _ _ _ _ hf _ _ hP hD hS _ (lv_sub hl [2, 3, 1, 0] rfl)
    · replace hf := ob_pos c7 hf
      refine lv_aload_n hx hb dX5_judge_14 rfl (lv_at hl 0 rfl) ?_
      refine lv_iconst (v := (-1)) hx hb dX5_judge_15 (by decide) ?_
      obtain ⟨r8, hr8, hf⟩ := ob_bind hf
      have hFc := va_free (wc := ce_X5 G.2.1 a0 S0) hD hS hA [0, 1, 2, 3, 4, 5, 6, 7, 8, 9, 10, 11, 12, 13, 14, 15, 16, 17, 18, 19, 20, 21, 22, 23, 24, 25, 26, 27, 28, 29, 30, 31, 32, 33, 34, 35, 36, 37, 38] rfl
      refine zc_wr (cf := (fun u => ce_X5 G.2.1 a0 u)) (ws' := ce_X5 G.2.1 a0 r8.2) (va_runV (As := [.int (-1)]) (rest := []) ⟨hx, hb, hml, hown, hts⟩ (c_X5_refuse l G a0 H.size S0 (-1) _ hr8) (cwV 1 hts gX5_judge_X5_refuse rfl rfl rfl (by decide +kernel) ⟨Nat.le_of_ble_eq_true rfl, Nat.le_of_ble_eq_true rfl⟩) ⟨PcM.blind, va_recv hK hP (ci := 5) (q0 := 0) rfl rfl, PcM.ok hP hD hK hE hS hFc⟩ rfl rfl hl.1 rfl (lv_room (Nat.le_of_ble_eq_true rfl)) dX5_judge_16 ⟨Nat.le_refl _, Nat.le_refl _⟩) hP hD hS hA [0, 1, 2, 3, 4, 5, 6, 7, 8, 9, 10, 11, 12, 13, 14, 15, 16, 17, 18, 19, 20, 21, 22, 23, 24, 25, 26, 27, 28, 29, 30, 31, 32, 33, 34, 35, 36, 37, 38] [] [0, 1, 2, 3, 4, 5, 6, 7, 8, 9, 10, 11, 12, 13, 14, 15, 16, 17, 18, 19, 20, 21, 22, 23, 24, 25, 26, 27, 28, 29, 30, 31, 32, 33, 34, 35, 36, 37, 38] rfl rfl (by decide) (by decide) (by decide) rfl (fun H locs hP hD hS => ?_)
      exact fin _ _ _ _ _ _ hf hP hD hS dX5_judge_19
  exact go _ _ hP hD hS _ hl
abbrev rm_X5_image : Room := { frames := 3, cells := 0, slots := 0, locals := 82 }
set_option maxHeartbeats 4000000 in
set_option maxRecDepth 100000 in
theorem c_X5_image (l : Launch) (G : zG) (a0 : AT_X5) (sz : Nat) (S0 : ST_X5) (out : Int32 × ST_X5) (hf : f_X5_image S0 = some out) : Met l yX5_image wsX5_image rm_X5_image (PcM G (ce_X5 G.2.1 a0 S0) [.ref a0.1] sz) (QWr G (fun u => ce_X5 G.2.1 a0 u) out (va_A (ce_X5 G.2.1 a0 S0) sz)) 0 0 (va_A (ce_X5 G.2.1 a0 S0) sz) := by
  rw [f_X5_image] at hf
  refine Met.ofW (cc := cX5_image) (maxL := 1) (ret := (some .int)) (by decide) rfl ?_
  intro p e s m args below meth c s₁ B hml hv
  obtain ⟨hargs, hsz, hP, hK, hD0, hE⟩ := hv
  have hx := B.exec
  have hb := B.bytes
  have hr := B.returns
  have hts := atoms_spec (ws := wsX5_image) B.pre
  have hown : s.vm.findClass RX5 = some m.cls := findClass_of_methodNamed B.named
  have hlocks := B.notSynchronized
  subst hsz
  have hD := hD0.self (sz := s.heap.size)
  generalize hAe : va_A (ce_X5 G.2.1 a0 S0) s.heap.size = A at hD hE ⊢
  have hA : ∀ q : Nat, s.heap.size ≤ q → A q := fun q h => by rw [← hAe]; exact Or.inr h
  have hS : va_S A s.heap s.heap [] := va_S.rf
  have hl := lv_entry ([.ref a0.1]) (n := 1) (Nat.le_of_ble_eq_true rfl)
  have hent : entryFrame m args 1 = F0 m 0 ((lg_sl ([.ref a0.1]) ++ List.replicate (1 - (lg_sl ([.ref a0.1])).length) Slot.unset).toArray) [] := by rw [hargs, lg_entry_eq]
  rw [hent]
  clear hent
  generalize (lg_sl ([.ref a0.1]) ++ List.replicate (1 - (lg_sl ([.ref a0.1])).length) Slot.unset).toArray = ls at hl ⊢
  have hl : lv_has ls 1 [(0, .ref a0.1)] := hl
  have lk0 := hts (Cond.fieldLink RX5 23 "EnginesOnList" "then" "LEnginesOnList$World;") (List.mem_of_getElem? (i := 1) rfl)
  have lk1 := hts (Cond.fieldLink RX5 19 "EnginesOnList" "now" "LEnginesOnList$World;") (List.mem_of_getElem? (i := 2) rfl)
  have lk2 := hts (Cond.initialized RX4) (List.mem_of_getElem? (i := 5) rfl)
  have lk3 := hts (Cond.instanceMethod yX4_copyFrom) (List.mem_of_getElem? (i := 4) rfl)
  have lk4 := hts (Cond.selects RX4 yX4_copyFrom yX4_copyFrom) (List.mem_of_getElem? (i := 6) rfl)
  have lk5 := hts (Cond.fieldLink RX5 187 "EnginesOnList" "imaged" "Z") (List.mem_of_getElem? (i := 3) rfl)
  have lk6 := va_Nw.use (A := args) rfl (hE.1 _ nw_17)
  have hinX5 : ∀ w ∈ wsX50, w ∈ wsX5_image := by decide +kernel
  have hinX4 : ∀ w ∈ wsX40, w ∈ wsX5_image := by decide +kernel
  have fin : ∀ (pc : Nat) (v : Int32) (u : ST_X5) (H : Heap) (locs : List Loc) (ls : Array Slot), some (v, u) = some out → va_P G.1 vwCl (ce_X5 G.2.1 a0 u) H → va_D A (ce_X5 G.2.1 a0 u) → va_S A s.heap H locs → decode cX5_image pc = .ok (.ireturn, 1) → W p l e (headSpec wsX5_image rm_X5_image).room s m args below meth c H locs 0 0 (MQ below (QWr G (fun u => ce_X5 G.2.1 a0 u) out A) args s 0 0 A) (F0 m pc ls [.int v]) := fun pc v u H locs ls ho hP hD hS hd => W.iret (v := v) hx hb hr (fun t ht hW => ⟨⟨v, u, rfl, ob_pair ho, by first | (rw [ht]; exact hP) | (dsimp only; rw [ht]; exact hP), hD⟩, hS.F ht⟩) hS.2.2 hd
  generalize MQ below (QWr G (fun u => ce_X5 G.2.1 a0 u) out A) args s 0 0 A = Q at fin ⊢
  have go : ∀ (H : Heap) (locs : List Loc), va_P G.1 vwCl (ce_X5 G.2.1 a0 S0) H → va_D A (ce_X5 G.2.1 a0 S0) → va_S A s.heap H locs → ∀ (ls : Array Slot), lv_has ls 1 [(0, .ref a0.1)] → W p l e (headSpec wsX5_image rm_X5_image).room s m args below meth c H locs 0 0 Q (F0 m 0 ls []) := by
    intro H locs hP hD hS ls hl
    refine lv_aload_n hx hb dX5_image_0 rfl (lv_at hl 0 rfl) ?_
    refine va_get (D := G.1) (ci := 5) (v := .ref a0.2.2.2.1.1) (C := RX5) (T := TX5) (N := 9) hx hb hts hinX5 hown hK hP 0 rfl rfl 2 (by decide) lk0 (fun _ h9 => h9) rfl dX5_image_1 ?_
    refine lv_aload_n hx hb dX5_image_4 rfl (lv_at hl 0 rfl) ?_
    refine va_get (D := G.1) (ci := 5) (v := .ref a0.2.2.1.1) (C := RX5) (T := TX5) (N := 9) hx hb hts hinX5 hown hK hP 0 rfl rfl 1 (by decide) lk1 (fun _ h9 => h9) rfl dX5_image_5 ?_
    obtain ⟨r1, hr1, hf⟩ := ob_bind hf
    have hPc : va_P G.1 vwCl (ce_X4 G.2.1 a0.2.2.2.1 S0.2.2.1 ++ ce_X4 G.2.1 a0.2.2.1 S0.2.1) H := hP.sub [15, 16, 17, 18, 19, 20, 21, 22, 23, 24, 25, 26, 3, 4, 5, 6, 7, 8, 9, 10, 11, 12, 13, 14] rfl
    have hDc : va_D A (ce_X4 G.2.1 a0.2.2.2.1 S0.2.2.1 ++ ce_X4 G.2.1 a0.2.2.1 S0.2.1) := hD.sub [15, 16, 17, 18, 19, 20, 21, 22, 23, 24, 25, 26, 3, 4, 5, 6, 7, 8, 9, 10, 11, 12, 13, 14] (by decide) rfl
    have hFc := va_free (wc := ce_X4 G.2.1 a0.2.2.2.1 S0.2.2.1 ++ ce_X4 G.2.1 a0.2.2.1 S0.2.1) hD hS hA [15, 16, 17, 18, 19, 20, 21, 22, 23, 24, 25, 26, 3, 4, 5, 6, 7, 8, 9, 10, 11, 12, 13, 14] rfl
    refine zc_wv (cf := (fun u => ce_X4 G.2.1 a0.2.2.2.1 u ++ ce_X4 G.2.1 a0.2.2.1 S0.2.1)) (ws' := ce_X5 G.2.1 a0 (S0.1, S0.2.1, r1, S0.2.2.2.1, S0.2.2.2.2.1, S0.2.2.2.2.2.1, S0.2.2.2.2.2.2.1, S0.2.2.2.2.2.2.2.1, S0.2.2.2.2.2.2.2.2)) (va_runVN (As := [.ref a0.2.2.1.1]) (rest := []) ⟨hx, hb, hml, hown, hts⟩ (c_X4_copyFrom l G a0.2.2.2.1 a0.2.2.1 H.size S0.2.2.1 S0.2.1 _ hr1) (⟨va_cnB 1 hts gX5_image_X4_copyFrom_n183 rfl rfl rfl (hE.1 _ nw_68) lk2 (by decide +kernel) ⟨Nat.le_of_ble_eq_true rfl, Nat.le_of_ble_eq_true rfl⟩, lk3, lk4⟩) ⟨PcM.blind, va_recv hK hPc (ci := 4) (q0 := 0) rfl rfl, PcM.ok hPc hDc hK hE hS hFc⟩ rfl rfl hl.1 rfl (lv_room (Nat.le_of_ble_eq_true rfl)) dX5_image_8 ⟨Nat.le_refl _, Nat.le_refl _⟩) hP hD hS hA [15, 16, 17, 18, 19, 20, 21, 22, 23, 24, 25, 26, 3, 4, 5, 6, 7, 8, 9, 10, 11, 12, 13, 14] [0, 1, 2, 27, 28, 29, 30, 31, 32, 33, 34, 35, 36, 37, 38] [0, 1, 2, 27, 28, 29, 30, 31, 32, 33, 34, 35, 36, 37, 38, 15, 16, 17, 18, 19, 20, 21, 22, 23, 24, 25, 26, 3, 4, 5, 6, 7, 8, 9, 10, 11, 12, 13, 14] rfl rfl (by decide) (by decide) (by decide) rfl (fun H locs hP hD hS => ?_)
    refine lv_aload_n hx hb dX5_image_11 rfl (lv_at hl 0 rfl) ?_
    refine lv_iconst (v := 1) hx hb dX5_image_12 (by decide) ?_
    refine va_put (D := G.1) (ci := 5) (v := .int 1) (ty := .boolean) (C := RX5) (T := TX5) (N := 9) hx hb hts hinX5 tyX5 tyX5_ok nmX5 hown hK hP hD hS 0 rfl rfl 3 (by decide) lk5 (fun _ h9 => h9) rfl (by decide +kernel) rfl rfl (Nat.le_of_ble_eq_true rfl) dX5_image_13 (fun H locs hP hD hS => ?_)
    have hP : va_P G.1 vwCl (ce_X5 G.2.1 a0 (S0.1, S0.2.1, r1, 1, S0.2.2.2.2.1, S0.2.2.2.2.2.1, S0.2.2.2.2.2.2.1, S0.2.2.2.2.2.2.2.1, S0.2.2.2.2.2.2.2.2)) H := hP
    have hD : va_D A (ce_X5 G.2.1 a0 (S0.1, S0.2.1, r1, 1, S0.2.2.2.2.1, S0.2.2.2.2.2.1, S0.2.2.2.2.2.2.1, S0.2.2.2.2.2.2.2.1, S0.2.2.2.2.2.2.2.2)) := hD
    refine lv_aload_n hx hb dX5_image_16 rfl (lv_at hl 0 rfl) ?_
    refine va_get (D := G.1) (ci := 5) (v := .ref a0.2.2.1.1) (C := RX5) (T := TX5) (N := 9) hx hb hts hinX5 hown hK hP 0 rfl rfl 1 (by decide) lk1 (fun _ h9 => h9) rfl dX5_image_17 ?_
    refine va_getN (D := G.1) (ci := 4) (v := .int S0.2.1.2.2) (C := RX4) (T := TX4) (N := 3) hx hb hts hinX4 hown hK hP 3 rfl rfl 2 (by decide) lk6 (fun _ h9 => h9) rfl dX5_image_20 ?_
    exact fin _ _ _ _ _ _ hf hP hD hS dX5_image_23
  exact go _ _ hP hD hS _ hl
abbrev rm_X5_on : Room := { frames := 3, cells := 0, slots := 0, locals := 82 }
set_option maxHeartbeats 4000000 in
set_option maxRecDepth 100000 in
theorem c_X5_on (l : Launch) (G : zG) (a0 : AT_X5) (sz : Nat) (S0 : ST_X5) (out : Int32 × ST_X5) (hf : f_X5_on S0 = some out) : Met l yX5_on wsX5_on rm_X5_on (PcM G (ce_X5 G.2.1 a0 S0) [.ref a0.1] sz) (QWr G (fun u => ce_X5 G.2.1 a0 u) out (va_A (ce_X5 G.2.1 a0 S0) sz)) 0 0 (va_A (ce_X5 G.2.1 a0 S0) sz) := by
  rw [f_X5_on] at hf
  refine Met.ofW (cc := cX5_on) (maxL := 1) (ret := (some .int)) (by decide) rfl ?_
  intro p e s m args below meth c s₁ B hml hv
  obtain ⟨hargs, hsz, hP, hK, hD0, hE⟩ := hv
  have hx := B.exec
  have hb := B.bytes
  have hr := B.returns
  have hts := atoms_spec (ws := wsX5_on) B.pre
  have hown : s.vm.findClass RX5 = some m.cls := findClass_of_methodNamed B.named
  have hlocks := B.notSynchronized
  subst hsz
  have hD := hD0.self (sz := s.heap.size)
  generalize hAe : va_A (ce_X5 G.2.1 a0 S0) s.heap.size = A at hD hE ⊢
  have hA : ∀ q : Nat, s.heap.size ≤ q → A q := fun q h => by rw [← hAe]; exact Or.inr h
  have hS : va_S A s.heap s.heap [] := va_S.rf
  have hl := lv_entry ([.ref a0.1]) (n := 1) (Nat.le_of_ble_eq_true rfl)
  have hent : entryFrame m args 1 = F0 m 0 ((lg_sl ([.ref a0.1]) ++ List.replicate (1 - (lg_sl ([.ref a0.1])).length) Slot.unset).toArray) [] := by rw [hargs, lg_entry_eq]
  rw [hent]
  clear hent
  generalize (lg_sl ([.ref a0.1]) ++ List.replicate (1 - (lg_sl ([.ref a0.1])).length) Slot.unset).toArray = ls at hl ⊢
  have hl : lv_has ls 1 [(0, .ref a0.1)] := hl
  have lk0 := hts (Cond.fieldLink RX5 187 "EnginesOnList" "imaged" "Z") (List.mem_of_getElem? (i := 1) rfl)
  have lk1 := hts (Cond.fieldLink RX5 19 "EnginesOnList" "now" "LEnginesOnList$World;") (List.mem_of_getElem? (i := 2) rfl)
  have lk2 := hts (Cond.fieldLink RX5 23 "EnginesOnList" "then" "LEnginesOnList$World;") (List.mem_of_getElem? (i := 3) rfl)
  have lk3 := hts (Cond.initialized RX4) (List.mem_of_getElem? (i := 11) rfl)
  have lk4 := hts (Cond.instanceMethod yX4_copyFrom) (List.mem_of_getElem? (i := 10) rfl)
  have lk5 := hts (Cond.selects RX4 yX4_copyFrom yX4_copyFrom) (List.mem_of_getElem? (i := 12) rfl)
  have lk6 := va_Nw.use (A := args) rfl (hE.1 _ nw_17)
  have hinX5 : ∀ w ∈ wsX50, w ∈ wsX5_on := by decide +kernel
  have hinX4 : ∀ w ∈ wsX40, w ∈ wsX5_on := by decide +kernel
  have fin : ∀ (pc : Nat) (v : Int32) (u : ST_X5) (H : Heap) (locs : List Loc) (ls : Array Slot), some (v, u) = some out → va_P G.1 vwCl (ce_X5 G.2.1 a0 u) H → va_D A (ce_X5 G.2.1 a0 u) → va_S A s.heap H locs → decode cX5_on pc = .ok (.ireturn, 1) → W p l e (headSpec wsX5_on rm_X5_on).room s m args below meth c H locs 0 0 (MQ below (QWr G (fun u => ce_X5 G.2.1 a0 u) out A) args s 0 0 A) (F0 m pc ls [.int v]) := fun pc v u H locs ls ho hP hD hS hd => W.iret (v := v) hx hb hr (fun t ht hW => ⟨⟨v, u, rfl, ob_pair ho, by first | (rw [ht]; exact hP) | (dsimp only; rw [ht]; exact hP), hD⟩, hS.F ht⟩) hS.2.2 hd
  generalize MQ below (QWr G (fun u => ce_X5 G.2.1 a0 u) out A) args s 0 0 A = Q at fin ⊢
  have go : ∀ (H : Heap) (locs : List Loc), va_P G.1 vwCl (ce_X5 G.2.1 a0 S0) H → va_D A (ce_X5 G.2.1 a0 S0) → va_S A s.heap H locs → ∀ (ls : Array Slot), lv_has ls 1 [(0, .ref a0.1)] → W p l e (headSpec wsX5_on rm_X5_on).room s m args below meth c H locs 0 0 Q (F0 m 0 ls []) := by
    intro H locs hP hD hS ls hl
    refine lv_aload_n hx hb dX5_on_0 rfl (lv_at hl 0 rfl) ?_
    refine va_get (D := G.1) (ci := 5) (v := .int S0.2.2.2.1) (C := RX5) (T := TX5) (N := 9) hx hb hts hinX5 hown hK hP 0 rfl rfl 3 (by decide) lk0 (fun _ h9 => h9) rfl dX5_on_1 ?_
    refine lv_if_ne (tgt := 14) hx hb dX5_on_4 (by decide) (fun c1 => ?_) (fun c1 => ?_)
    · replace hf := ob_neg c1 hf
      refine lv_aload_n hx hb dX5_on_14 rfl (lv_at hl 0 rfl) ?_
      refine va_get (D := G.1) (ci := 5) (v := .ref a0.2.2.1.1) (C := RX5) (T := TX5) (N := 9) hx hb hts hinX5 hown hK hP 0 rfl rfl 1 (by decide) lk1 (fun _ h9 => h9) rfl dX5_on_15 ?_
      refine lv_aload_n hx hb dX5_on_18 rfl (lv_at hl 0 rfl) ?_
      refine va_get (D := G.1) (ci := 5) (v := .ref a0.2.2.2.1.1) (C := RX5) (T := TX5) (N := 9) hx hb hts hinX5 hown hK hP 0 rfl rfl 2 (by decide) lk2 (fun _ h9 => h9) rfl dX5_on_19 ?_
      obtain ⟨r2, hr2, hf⟩ := ob_bind hf
      have hPc : va_P G.1 vwCl (ce_X4 G.2.1 a0.2.2.1 S0.2.1 ++ ce_X4 G.2.1 a0.2.2.2.1 S0.2.2.1) H := hP.sub [3, 4, 5, 6, 7, 8, 9, 10, 11, 12, 13, 14, 15, 16, 17, 18, 19, 20, 21, 22, 23, 24, 25, 26] rfl
      have hDc : va_D A (ce_X4 G.2.1 a0.2.2.1 S0.2.1 ++ ce_X4 G.2.1 a0.2.2.2.1 S0.2.2.1) := hD.sub [3, 4, 5, 6, 7, 8, 9, 10, 11, 12, 13, 14, 15, 16, 17, 18, 19, 20, 21, 22, 23, 24, 25, 26] (by decide) rfl
      have hFc := va_free (wc := ce_X4 G.2.1 a0.2.2.1 S0.2.1 ++ ce_X4 G.2.1 a0.2.2.2.1 S0.2.2.1) hD hS hA [3, 4, 5, 6, 7, 8, 9, 10, 11, 12, 13, 14, 15, 16, 17, 18, 19, 20, 21, 22, 23, 24, 25, 26] rfl
      refine zc_wv (cf := (fun u => ce_X4 G.2.1 a0.2.2.1 u ++ ce_X4 G.2.1 a0.2.2.2.1 S0.2.2.1)) (ws' := ce_X5 G.2.1 a0 (S0.1, r2, S0.2.2.1, S0.2.2.2.1, S0.2.2.2.2.1, S0.2.2.2.2.2.1, S0.2.2.2.2.2.2.1, S0.2.2.2.2.2.2.2.1, S0.2.2.2.2.2.2.2.2)) (va_runVN (As := [.ref a0.2.2.2.1.1]) (rest := []) ⟨hx, hb, hml, hown, hts⟩ (c_X4_copyFrom l G a0.2.2.1 a0.2.2.2.1 H.size S0.2.1 S0.2.2.1 _ hr2) (⟨va_cnB 1 hts gX5_on_X4_copyFrom_n183 rfl rfl rfl (hE.1 _ nw_68) lk3 (by decide +kernel) ⟨Nat.le_of_ble_eq_true rfl, Nat.le_of_ble_eq_true rfl⟩, lk4, lk5⟩) ⟨PcM.blind, va_recv hK hPc (ci := 4) (q0 := 0) rfl rfl, PcM.ok hPc hDc hK hE hS hFc⟩ rfl rfl hl.1 rfl (lv_room (Nat.le_of_ble_eq_true rfl)) dX5_on_22 ⟨Nat.le_refl _, Nat.le_refl _⟩) hP hD hS hA [3, 4, 5, 6, 7, 8, 9, 10, 11, 12, 13, 14, 15, 16, 17, 18, 19, 20, 21, 22, 23, 24, 25, 26] [0, 1, 2, 27, 28, 29, 30, 31, 32, 33, 34, 35, 36, 37, 38] [0, 1, 2, 15, 16, 17, 18, 19, 20, 21, 22, 23, 24, 25, 26, 27, 28, 29, 30, 31, 32, 33, 34, 35, 36, 37, 38, 3, 4, 5, 6, 7, 8, 9, 10, 11, 12, 13, 14] rfl rfl (by decide) (by decide) (by decide) rfl (fun H locs hP hD hS => ?_)
      refine lv_aload_n hx hb dX5_on_25 rfl (lv_at hl 0 rfl) ?_
      refine va_get (D := G.1) (ci := 5) (v := .ref a0.2.2.1.1) (C := RX5) (T := TX5) (N := 9) hx hb hts hinX5 hown hK hP 0 rfl rfl 1 (by decide) lk1 (fun _ h9 => h9) rfl dX5_on_26 ?_
      refine va_getN (D := G.1) (ci := 4) (v := .int r2.2.2) (C := RX4) (T := TX4) (N := 3) hx hb hts hinX4 hown hK hP 3 rfl rfl 2 (by decide) lk6 (fun _ h9 => h9) rfl dX5_on_29 ?_
      exact fin _ _ _ _ _ _ hf hP hD hS dX5_on_32
    · replace hf := ob_pos c1 hf
      refine lv_aload_n hx hb dX5_on_7 rfl (lv_at hl 0 rfl) ?_
      refine lv_bipush (v := (-3)) hx hb dX5_on_8 (by decide) ?_
      obtain ⟨r3, hr3, hf⟩ := ob_bind hf
      have hFc := va_free (wc := ce_X5 G.2.1 a0 S0) hD hS hA [0, 1, 2, 3, 4, 5, 6, 7, 8, 9, 10, 11, 12, 13, 14, 15, 16, 17, 18, 19, 20, 21, 22, 23, 24, 25, 26, 27, 28, 29, 30, 31, 32, 33, 34, 35, 36, 37, 38] rfl
      refine zc_wr (cf := (fun u => ce_X5 G.2.1 a0 u)) (ws' := ce_X5 G.2.1 a0 r3.2) (va_runV (As := [.int (-3)]) (rest := []) ⟨hx, hb, hml, hown, hts⟩ (c_X5_refuse l G a0 H.size S0 (-3) _ hr3) (cwV 1 hts gX5_on_X5_refuse rfl rfl rfl (by decide +kernel) ⟨Nat.le_of_ble_eq_true rfl, Nat.le_of_ble_eq_true rfl⟩) ⟨PcM.blind, va_recv hK hP (ci := 5) (q0 := 0) rfl rfl, PcM.ok hP hD hK hE hS hFc⟩ rfl rfl hl.1 rfl (lv_room (Nat.le_of_ble_eq_true rfl)) dX5_on_10 ⟨Nat.le_refl _, Nat.le_refl _⟩) hP hD hS hA [0, 1, 2, 3, 4, 5, 6, 7, 8, 9, 10, 11, 12, 13, 14, 15, 16, 17, 18, 19, 20, 21, 22, 23, 24, 25, 26, 27, 28, 29, 30, 31, 32, 33, 34, 35, 36, 37, 38] [] [0, 1, 2, 3, 4, 5, 6, 7, 8, 9, 10, 11, 12, 13, 14, 15, 16, 17, 18, 19, 20, 21, 22, 23, 24, 25, 26, 27, 28, 29, 30, 31, 32, 33, 34, 35, 36, 37, 38] rfl rfl (by decide) (by decide) (by decide) rfl (fun H locs hP hD hS => ?_)
      exact fin _ _ _ _ _ _ hf hP hD hS dX5_on_13
  exact go _ _ hP hD hS _ hl
abbrev rm_X5_count : Room := { frames := 6, cells := 0, slots := 0, locals := 131 }
set_option maxHeartbeats 4000000 in
set_option maxRecDepth 100000 in
theorem c_X5_count (l : Launch) (G : zG) (a0 : AT_X5) (sz : Nat) (S0 : ST_X5) (p1 : Int32) (out : Int32) (hf : f_X5_count S0 p1 = some out) : Met l yX5_count wsX5_count rm_X5_count (PcM G (ce_X5 G.2.1 a0 S0) [.ref a0.1, .int p1] sz) (QRo G (ce_X5 G.2.1 a0 S0) out (va_A (ce_X5 G.2.1 a0 S0) sz)) 0 0 (va_A (ce_X5 G.2.1 a0 S0) sz) := by
  rw [f_X5_count] at hf
  refine Met.ofW (cc := cX5_count) (maxL := 2) (ret := (some .int)) (by decide) rfl ?_
  intro p e s m args below meth c s₁ B hml hv
  obtain ⟨hargs, hsz, hP, hK, hD0, hE⟩ := hv
  have hx := B.exec
  have hb := B.bytes
  have hr := B.returns
  have hts := atoms_spec (ws := wsX5_count) B.pre
  have hown : s.vm.findClass RX5 = some m.cls := findClass_of_methodNamed B.named
  have hlocks := B.notSynchronized
  subst hsz
  have hD := hD0.self (sz := s.heap.size)
  generalize hAe : va_A (ce_X5 G.2.1 a0 S0) s.heap.size = A at hD hE ⊢
  have hA : ∀ q : Nat, s.heap.size ≤ q → A q := fun q h => by rw [← hAe]; exact Or.inr h
  have hS : va_S A s.heap s.heap [] := va_S.rf
  have hl := lv_entry ([.ref a0.1, .int p1]) (n := 2) (Nat.le_of_ble_eq_true rfl)
  have hent : entryFrame m args 2 = F0 m 0 ((lg_sl ([.ref a0.1, .int p1]) ++ List.replicate (2 - (lg_sl ([.ref a0.1, .int p1])).length) Slot.unset).toArray) [] := by rw [hargs, lg_entry_eq]
  rw [hent]
  clear hent
  generalize (lg_sl ([.ref a0.1, .int p1]) ++ List.replicate (2 - (lg_sl ([.ref a0.1, .int p1])).length) Slot.unset).toArray = ls at hl ⊢
  have hl : lv_has ls 2 [(0, .ref a0.1), (1, .int p1)] := hl
  have lk0 := hts (Cond.fieldLink RX5 19 "EnginesOnList" "now" "LEnginesOnList$World;") (List.mem_of_getElem? (i := 1) rfl)
  have lk1 := va_Nw.use (A := args) rfl (hE.1 _ nw_14)
  have lk2 := va_Nw.use (A := args) rfl (hE.1 _ nw_5)
  have lk3 := va_Nw.use (A := args) rfl (hE.1 _ nw_17)
  have lk4 := va_Nw.use (A := args) rfl (hE.1 _ nw_6)
  have lk5 := hts (Cond.initialized RX1) (List.mem_of_getElem? (i := 13) rfl)
  have lk6 := hts (Cond.instanceMethod yX1_worthOfAllNew) (List.mem_of_getElem? (i := 12) rfl)
  have lk7 := hts (Cond.selects RX1 yX1_worthOfAllNew yX1_worthOfAllNew) (List.mem_of_getElem? (i := 14) rfl)
  have lk8 := va_Nw.use (A := args) rfl (hE.1 _ nw_15)
  have lk9 := va_Nw.use (A := args) rfl (hE.1 _ nw_12)
  have lk10 := hts (Cond.fieldLink RX5 180 "EnginesOnList" "toldSize" "I") (List.mem_of_getElem? (i := 2) rfl)
  have lk11 := hts (Cond.fieldLink RX5 10 "EnginesOnList" "letters" "LEnginesOnList$Letters;") (List.mem_of_getElem? (i := 3) rfl)
  have lk12 := va_Nw.use (A := args) rfl (hE.1 _ nw_0)
  have lk13 := va_Nw.use (A := args) rfl (hE.1 _ nw_7)
  have lk14 := hts (Cond.fieldLink RX5 44 "EnginesOnList" "refused" "[I") (List.mem_of_getElem? (i := 4) rfl)
  have hinX5 : ∀ w ∈ wsX50, w ∈ wsX5_count := by decide +kernel
  have hinX4 : ∀ w ∈ wsX40, w ∈ wsX5_count := by decide +kernel
  have hinX1 : ∀ w ∈ wsX10, w ∈ wsX5_count := by decide +kernel
  have hinX0 : ∀ w ∈ wsX00, w ∈ wsX5_count := by decide +kernel
  have hinX2 : ∀ w ∈ wsX20, w ∈ wsX5_count := by decide +kernel
  have fin : ∀ (pc : Nat) (v : Int32) (H : Heap) (locs : List Loc) (ls : Array Slot), some v = some out → va_P G.1 vwCl (ce_X5 G.2.1 a0 S0) H → va_D A (ce_X5 G.2.1 a0 S0) → va_S A s.heap H locs → decode cX5_count pc = .ok (.ireturn, 1) → W p l e (headSpec wsX5_count rm_X5_count).room s m args below meth c H locs 0 0 (MQ below (QRo G (ce_X5 G.2.1 a0 S0) out A) args s 0 0 A) (F0 m pc ls [.int v]) := fun pc v H locs ls ho hP hD hS hd => W.iret (v := v) hx hb hr (fun t ht hW => ⟨⟨v, (), rfl, Option.some.inj ho, by first | (rw [ht]; exact hP) | (dsimp only; rw [ht]; exact hP)⟩, hS.F ht⟩) hS.2.2 hd
  generalize MQ below (QRo G (ce_X5 G.2.1 a0 S0) out A) args s 0 0 A = Q at fin ⊢
  have blk154 : f_X5_count_b154 S0 = some out → ∀ (H : Heap) (locs : List Loc), va_P G.1 vwCl (ce_X5 G.2.1 a0 S0) H → va_D A (ce_X5 G.2.1 a0 S0) → va_S A s.heap H locs → ∀ (ls : Array Slot), lv_has ls 2 [] → W p l e (headSpec wsX5_count rm_X5_count).room s m args below meth c H locs 0 0 Q (F0 m 154 ls []) := by
    intro hf H locs hP hD hS ls hl
    rw [f_X5_count_b154] at hf
    refine lv_bipush (v := (-9)) hx hb dX5_count_154 (by decide) ?_
    exact fin _ _ _ _ _ hf hP hD hS dX5_count_156
  have go : ∀ (H : Heap) (locs : List Loc), va_P G.1 vwCl (ce_X5 G.2.1 a0 S0) H → va_D A (ce_X5 G.2.1 a0 S0) → va_S A s.heap H locs → ∀ (ls : Array Slot), lv_has ls 2 [(0, .ref a0.1), (1, .int p1)] → W p l e (headSpec wsX5_count rm_X5_count).room s m args below meth c H locs 0 0 Q (F0 m 0 ls []) := by
    intro H locs hP hD hS ls hl
    refine lv_iload_n hx hb dX5_count_0 rfl (lv_at hl 1 rfl) ?_
    by_cases c1_0 : p1 = 0
    · replace hf := ob_pos c1_0 hf
      refine lv_tableIn (x := p1) (off := 47) (tgt := 48) hx hb dX5_count_1 (by rw [c1_0]; decide) (by rw [c1_0]; decide) (by rw [c1_0]; decide) (by decide) ?_
      refine lv_aload_n hx hb dX5_count_48 rfl (lv_at hl 0 rfl) ?_
      refine va_get (D := G.1) (ci := 5) (v := .ref a0.2.2.1.1) (C := RX5) (T := TX5) (N := 9) hx hb hts hinX5 hown hK hP 0 rfl rfl 1 (by decide) lk0 (fun _ h9 => h9) rfl dX5_count_49 ?_
      refine va_getN (D := G.1) (ci := 4) (v := .ref a0.2.2.1.2.1.1) (C := RX4) (T := TX4) (N := 3) hx hb hts hinX4 hown hK hP 3 rfl rfl 0 (by decide) lk1 (fun _ h9 => h9) rfl dX5_count_52 ?_
      refine va_getN (D := G.1) (ci := 1) (v := .int S0.2.1.1.2.2.2.2.2.1) (C := RX1) (T := TX1) (N := 9) hx hb hts hinX1 hown hK hP 4 rfl rfl 5 (by decide) lk2 (fun _ h9 => h9) rfl dX5_count_55 ?_
      exact fin _ _ _ _ _ hf hP hD hS dX5_count_58
    · replace hf := ob_neg c1_0 hf
      by_cases c1_1 : p1 = 1
      · replace hf := ob_pos c1_1 hf
        refine lv_tableIn (x := p1) (off := 58) (tgt := 59) hx hb dX5_count_1 (by rw [c1_1]; decide) (by rw [c1_1]; decide) (by rw [c1_1]; decide) (by decide) ?_
        refine lv_aload_n hx hb dX5_count_59 rfl (lv_at hl 0 rfl) ?_
        refine va_get (D := G.1) (ci := 5) (v := .ref a0.2.2.1.1) (C := RX5) (T := TX5) (N := 9) hx hb hts hinX5 hown hK hP 0 rfl rfl 1 (by decide) lk0 (fun _ h9 => h9) rfl dX5_count_60 ?_
        refine va_getN (D := G.1) (ci := 4) (v := .int S0.2.1.2.2) (C := RX4) (T := TX4) (N := 3) hx hb hts hinX4 hown hK hP 3 rfl rfl 2 (by decide) lk3 (fun _ h9 => h9) rfl dX5_count_63 ?_
        exact fin _ _ _ _ _ hf hP hD hS dX5_count_66
      · replace hf := ob_neg c1_1 hf
        by_cases c1_2 : p1 = 2
        · replace hf := ob_pos c1_2 hf
          refine lv_tableIn (x := p1) (off := 66) (tgt := 67) hx hb dX5_count_1 (by rw [c1_2]; decide) (by rw [c1_2]; decide) (by rw [c1_2]; decide) (by decide) ?_
          refine lv_aload_n hx hb dX5_count_67 rfl (lv_at hl 0 rfl) ?_
          refine va_get (D := G.1) (ci := 5) (v := .ref a0.2.2.1.1) (C := RX5) (T := TX5) (N := 9) hx hb hts hinX5 hown hK hP 0 rfl rfl 1 (by decide) lk0 (fun _ h9 => h9) rfl dX5_count_68 ?_
          refine va_getN (D := G.1) (ci := 4) (v := .ref a0.2.2.1.2.1.1) (C := RX4) (T := TX4) (N := 3) hx hb hts hinX4 hown hK hP 3 rfl rfl 0 (by decide) lk1 (fun _ h9 => h9) rfl dX5_count_71 ?_
          refine va_getN (D := G.1) (ci := 1) (v := .int S0.2.1.1.2.2.2.2.2.2.2.1) (C := RX1) (T := TX1) (N := 9) hx hb hts hinX1 hown hK hP 4 rfl rfl 7 (by decide) lk4 (fun _ h9 => h9) rfl dX5_count_74 ?_
          obtain ⟨r2, hr2, hf⟩ := ob_bind hf
          have hPc : va_P G.1 vwCl (([] : va_W)) H := hP.sub [] rfl
          have hDc : va_D A (([] : va_W)) := hD.sub [] (by decide) rfl
          have hFc := va_free (wc := ([] : va_W)) hD hS hA [] rfl
          refine zc_ro (va_runS (As := [.int S0.2.1.1.2.2.2.2.2.2.2.1]) (rest := []) ⟨hx, hb, hml, hown, hts⟩ (c_J6_bitCount_0f7a4 l G H.size S0.2.1.1.2.2.2.2.2.2.2.1 _ hr2) (va_cwS 1 hts gX5_count_J6_bitCount_0f7a4 rfl rfl rfl (by decide +kernel) ⟨Nat.le_of_ble_eq_true rfl, Nat.le_of_ble_eq_true rfl⟩) ⟨PcM.blind, PcM.ok hPc hDc hK hE hS hFc⟩ rfl rfl hl.1 rfl (lv_room (Nat.le_of_ble_eq_true rfl)) dX5_count_77 ⟨Nat.le_refl _, Nat.le_refl _⟩) hP hD hS hA [] rfl (fun H locs hP hS => ?_)
          exact fin _ _ _ _ _ hf hP hD hS dX5_count_80
        · replace hf := ob_neg c1_2 hf
          by_cases c1_3 : p1 = 3
          · replace hf := ob_pos c1_3 hf
            refine lv_tableIn (x := p1) (off := 80) (tgt := 81) hx hb dX5_count_1 (by rw [c1_3]; decide) (by rw [c1_3]; decide) (by rw [c1_3]; decide) (by decide) ?_
            refine lv_aload_n hx hb dX5_count_81 rfl (lv_at hl 0 rfl) ?_
            refine va_get (D := G.1) (ci := 5) (v := .ref a0.2.2.1.1) (C := RX5) (T := TX5) (N := 9) hx hb hts hinX5 hown hK hP 0 rfl rfl 1 (by decide) lk0 (fun _ h9 => h9) rfl dX5_count_82 ?_
            refine va_getN (D := G.1) (ci := 4) (v := .ref a0.2.2.1.2.1.1) (C := RX4) (T := TX4) (N := 3) hx hb hts hinX4 hown hK hP 3 rfl rfl 0 (by decide) lk1 (fun _ h9 => h9) rfl dX5_count_85 ?_
            obtain ⟨r3, hr3, hf⟩ := ob_bind hf
            have hPc : va_P G.1 vwCl (ce_X1 G.2.1 a0.2.2.1.2.1 S0.2.1.1) H := hP.sub [4, 5, 6, 7, 8, 9] rfl
            have hDc : va_D A (ce_X1 G.2.1 a0.2.2.1.2.1 S0.2.1.1) := hD.sub [4, 5, 6, 7, 8, 9] (by decide) rfl
            have hFc := va_free (wc := ce_X1 G.2.1 a0.2.2.1.2.1 S0.2.1.1) hD hS hA [4, 5, 6, 7, 8, 9] rfl
            refine zc_ro (va_runVN (As := []) (rest := []) ⟨hx, hb, hml, hown, hts⟩ (c_X1_worthOfAllNew l G a0.2.2.1.2.1 H.size S0.2.1.1 _ hr3) (⟨va_cnB 0 hts gX5_count_X1_worthOfAllNew_n132 rfl rfl rfl (hE.1 _ nw_55) lk5 (by decide +kernel) ⟨Nat.le_of_ble_eq_true rfl, Nat.le_of_ble_eq_true rfl⟩, lk6, lk7⟩) ⟨PcM.blind, va_recv hK hPc (ci := 1) (q0 := 0) rfl rfl, PcM.ok hPc hDc hK hE hS hFc⟩ rfl rfl hl.1 rfl (lv_room (Nat.le_of_ble_eq_true rfl)) dX5_count_88 ⟨Nat.le_refl _, Nat.le_refl _⟩) hP hD hS hA [4, 5, 6, 7, 8, 9] rfl (fun H locs hP hS => ?_)
            exact fin _ _ _ _ _ hf hP hD hS dX5_count_91
          · replace hf := ob_neg c1_3 hf
            by_cases c1_4 : p1 = 4
            · replace hf := ob_pos c1_4 hf
              refine lv_tableIn (x := p1) (off := 91) (tgt := 92) hx hb dX5_count_1 (by rw [c1_4]; decide) (by rw [c1_4]; decide) (by rw [c1_4]; decide) (by decide) ?_
              refine lv_aload_n hx hb dX5_count_92 rfl (lv_at hl 0 rfl) ?_
              refine va_get (D := G.1) (ci := 5) (v := .ref a0.2.2.1.1) (C := RX5) (T := TX5) (N := 9) hx hb hts hinX5 hown hK hP 0 rfl rfl 1 (by decide) lk0 (fun _ h9 => h9) rfl dX5_count_93 ?_
              refine va_getN (D := G.1) (ci := 4) (v := .ref a0.2.2.1.2.2.1) (C := RX4) (T := TX4) (N := 3) hx hb hts hinX4 hown hK hP 3 rfl rfl 1 (by decide) lk8 (fun _ h9 => h9) rfl dX5_count_96 ?_
              refine va_getN (D := G.1) (ci := 0) (v := .int S0.2.1.2.1.2.2.2.2) (C := RX0) (T := TX0) (N := 5) hx hb hts hinX0 hown hK hP 10 rfl rfl 4 (by decide) lk9 (fun _ h9 => h9) rfl dX5_count_99 ?_
              exact fin _ _ _ _ _ hf hP hD hS dX5_count_102
            · replace hf := ob_neg c1_4 hf
              by_cases c1_5 : p1 = 5
              · replace hf := ob_pos c1_5 hf
                refine lv_tableIn (x := p1) (off := 102) (tgt := 103) hx hb dX5_count_1 (by rw [c1_5]; decide) (by rw [c1_5]; decide) (by rw [c1_5]; decide) (by decide) ?_
                refine lv_aload_n hx hb dX5_count_103 rfl (lv_at hl 0 rfl) ?_
                refine va_get (D := G.1) (ci := 5) (v := .int S0.2.2.2.2.2.2.2.1) (C := RX5) (T := TX5) (N := 9) hx hb hts hinX5 hown hK hP 0 rfl rfl 7 (by decide) lk10 (fun _ h9 => h9) rfl dX5_count_104 ?_
                exact fin _ _ _ _ _ hf hP hD hS dX5_count_107
              · replace hf := ob_neg c1_5 hf
                by_cases c1_6 : p1 = 6
                · replace hf := ob_pos c1_6 hf
                  refine lv_tableIn (x := p1) (off := 107) (tgt := 108) hx hb dX5_count_1 (by rw [c1_6]; decide) (by rw [c1_6]; decide) (by rw [c1_6]; decide) (by decide) ?_
                  refine lv_aload_n hx hb dX5_count_108 rfl (lv_at hl 0 rfl) ?_
                  refine va_get (D := G.1) (ci := 5) (v := .ref a0.2.1.1) (C := RX5) (T := TX5) (N := 9) hx hb hts hinX5 hown hK hP 0 rfl rfl 0 (by decide) lk11 (fun _ h9 => h9) rfl dX5_count_109 ?_
                  refine va_getN (D := G.1) (ci := 2) (v := .int S0.1.2) (C := RX2) (T := TX2) (N := 2) hx hb hts hinX2 hown hK hP 1 rfl rfl 1 (by decide) lk12 (fun _ h9 => h9) rfl dX5_count_112 ?_
                  exact fin _ _ _ _ _ hf hP hD hS dX5_count_115
                · replace hf := ob_neg c1_6 hf
                  by_cases c1_7 : p1 = 7
                  · replace hf := ob_pos c1_7 hf
                    refine lv_tableIn (x := p1) (off := 115) (tgt := 116) hx hb dX5_count_1 (by rw [c1_7]; decide) (by rw [c1_7]; decide) (by rw [c1_7]; decide) (by decide) ?_
                    refine lv_aload_n hx hb dX5_count_116 rfl (lv_at hl 0 rfl) ?_
                    refine va_get (D := G.1) (ci := 5) (v := .ref a0.2.2.1.1) (C := RX5) (T := TX5) (N := 9) hx hb hts hinX5 hown hK hP 0 rfl rfl 1 (by decide) lk0 (fun _ h9 => h9) rfl dX5_count_117 ?_
                    refine va_getN (D := G.1) (ci := 4) (v := .ref a0.2.2.1.2.1.1) (C := RX4) (T := TX4) (N := 3) hx hb hts hinX4 hown hK hP 3 rfl rfl 0 (by decide) lk1 (fun _ h9 => h9) rfl dX5_count_120 ?_
                    refine va_getN (D := G.1) (ci := 1) (v := .int S0.2.1.1.2.2.2.2.2.2.2.2) (C := RX1) (T := TX1) (N := 9) hx hb hts hinX1 hown hK hP 4 rfl rfl 8 (by decide) lk13 (fun _ h9 => h9) rfl dX5_count_123 ?_
                    obtain ⟨r4, hr4, hf⟩ := ob_bind hf
                    have hPc : va_P G.1 vwCl (([] : va_W)) H := hP.sub [] rfl
                    have hDc : va_D A (([] : va_W)) := hD.sub [] (by decide) rfl
                    have hFc := va_free (wc := ([] : va_W)) hD hS hA [] rfl
                    refine zc_ro (va_runS (As := [.int S0.2.1.1.2.2.2.2.2.2.2.2]) (rest := []) ⟨hx, hb, hml, hown, hts⟩ (c_J6_bitCount_0f7a4 l G H.size S0.2.1.1.2.2.2.2.2.2.2.2 _ hr4) (va_cwS 1 hts gX5_count_J6_bitCount_0f7a4 rfl rfl rfl (by decide +kernel) ⟨Nat.le_of_ble_eq_true rfl, Nat.le_of_ble_eq_true rfl⟩) ⟨PcM.blind, PcM.ok hPc hDc hK hE hS hFc⟩ rfl rfl hl.1 rfl (lv_room (Nat.le_of_ble_eq_true rfl)) dX5_count_126 ⟨Nat.le_refl _, Nat.le_refl _⟩) hP hD hS hA [] rfl (fun H locs hP hS => ?_)
                    exact fin _ _ _ _ _ hf hP hD hS dX5_count_129
                  · replace hf := ob_neg c1_7 hf
                    have tc1_0 := lv_neT (a := 0) c1_0 rfl
                    have tc1_1 := lv_neT (a := 1) c1_1 rfl
                    have tc1_2 := lv_neT (a := 2) c1_2 rfl
                    have tc1_3 := lv_neT (a := 3) c1_3 rfl
                    have tc1_4 := lv_neT (a := 4) c1_4 rfl
                    have tc1_5 := lv_neT (a := 5) c1_5 rfl
                    have tc1_6 := lv_neT (a := 6) c1_6 rfl
                    have tc1_7 := lv_neT (a := 7) c1_7 rfl
                    refine lv_tableOut (x := p1) (tgt := 130) hx hb dX5_count_1 (by omega) (by decide) ?_
                    refine lv_iload_n hx hb dX5_count_130 rfl (lv_at hl 1 rfl) ?_
                    refine lv_bipush (v := 10) hx hb dX5_count_131 (by decide) ?_
                    refine lv_icmp_le (tgt := 154) hx hb dX5_count_133 (by decide) (fun c5 => ?_) (fun c5 => ?_)
                    · replace hf := ob_pos c5 hf
                      exact blk154  hf _ _ hP hD hS _ (lv_sub hl [] rfl)
                    · replace hf := ob_neg c5 hf
                      refine lv_iload_n hx hb dX5_count_136 rfl (lv_at hl 1 rfl) ?_
                      refine lv_bipush (v := 16) hx hb dX5_count_137 (by decide) ?_
                      refine lv_icmp_gt (tgt := 154) hx hb dX5_count_139 (by decide) (fun c6 => ?_) (fun c6 => ?_)
                      · replace hf := ob_pos c6 hf
                        exact blk154  hf _ _ hP hD hS _ (lv_sub hl [] rfl)
                      · replace hf := ob_neg c6 hf
                        refine lv_aload_n hx hb dX5_count_142 rfl (lv_at hl 0 rfl) ?_
                        refine va_get (D := G.1) (ci := 5) (v := .ref a0.2.2.2.2.2.2.2) (C := RX5) (T := TX5) (N := 9) hx hb hts hinX5 hown hK hP 0 rfl rfl 8 (by decide) lk14 (fun _ h9 => h9) rfl dX5_count_143 ?_
                        refine lv_iload_n hx hb dX5_count_146 rfl (lv_at hl 1 rfl) ?_
                        refine lv_bipush (v := 11) hx hb dX5_count_147 (by decide) ?_
                        refine lv_isub hx hb dX5_count_149 ?_
                        obtain ⟨hg7, hf⟩ := ob_guard hf
                        refine va_iald hx hb hK hP 38 0 rfl rfl hg7 dX5_count_150 ?_
                        refine lv_goto (tgt := 156) hx hb dX5_count_151 (by decide) ?_
                        exact fin _ _ _ _ _ hf hP hD hS dX5_count_156
  exact go _ _ hP hD hS _ hl
