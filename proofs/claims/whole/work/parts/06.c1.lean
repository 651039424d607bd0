abbrev rm_X0_copyFrom : Room := { frames := 1, cells := 0, slots := 0, locals := 40 }
set_option maxHeartbeats 4000000 in
set_option maxRecDepth 100000 in
theorem c_X0_copyFrom (l : Launch) (G : zG) (a0 : AT_X0) (a1 : AT_X0) (sz : Nat) (S0 : ST_X0) (S1 : ST_X0) (out : ST_X0) (hf : f_X0_copyFrom S0 S1 = some out) : Met l yX0_copyFrom wsX0_copyFrom rm_X0_copyFrom (PcM G (ce_X0 G.2.1 a0 S0 ++ ce_X0 G.2.1 a1 S1) [.ref a0.1, .ref a1.1] sz) (QWv G (fun u => ce_X0 G.2.1 a0 u ++ ce_X0 G.2.1 a1 S1) out (va_A (ce_X0 G.2.1 a0 S0 ++ ce_X0 G.2.1 a1 S1) sz)) 0 0 (va_A (ce_X0 G.2.1 a0 S0 ++ ce_X0 G.2.1 a1 S1) sz) := by
  rw [f_X0_copyFrom] at hf
  refine Met.ofW (cc := cX0_copyFrom) (maxL := 2) (ret := none) (by decide) rfl ?_
  intro p e s m args below meth c s₁ B hml hv
  obtain ⟨hargs, hsz, hP, hK, hD0, hE⟩ := hv
  have hx := B.exec
  have hb := B.bytes
  have hr := B.returns
  have hts := atoms_spec (ws := wsX0_copyFrom) B.pre
  have hown : s.vm.findClass RX0 = some m.cls := findClass_of_methodNamed B.named
  have hlocks := B.notSynchronized
  subst hsz
  have hD := hD0.self (sz := s.heap.size)
  generalize hAe : va_A (ce_X0 G.2.1 a0 S0 ++ ce_X0 G.2.1 a1 S1) s.heap.size = A at hD hE ⊢
  have hA : ∀ q : Nat, s.heap.size ≤ q → A q := fun q h => by rw [← hAe]; exact Or.inr h
  have hS : va_S A s.heap s.heap [] := va_S.rf
  have hl := lv_entry ([.ref a0.1, .ref a1.1]) (n := 2) (Nat.le_of_ble_eq_true rfl)
  have hent : entryFrame m args 2 = F0 m 0 ((lg_sl ([.ref a0.1, .ref a1.1]) ++ List.replicate (2 - (lg_sl ([.ref a0.1, .ref a1.1])).length) Slot.unset).toArray) [] := by rw [hargs, lg_entry_eq]
  rw [hent]
  clear hent
  generalize (lg_sl ([.ref a0.1, .ref a1.1]) ++ List.replicate (2 - (lg_sl ([.ref a0.1, .ref a1.1])).length) Slot.unset).toArray = ls at hl ⊢
  have hl : lv_has ls 2 [(0, .ref a0.1), (1, .ref a1.1)] := hl
  have lk0 := hts (Cond.fieldLink RX0 9 "EnginesOnList$Book" "days" "[I") (List.mem_of_getElem? (i := 1) rfl)
  have lk1 := hts (Cond.methodLink RX0 24 arraycopyName) (List.mem_of_getElem? (i := 2) rfl)
  have lk2 := hts (Cond.native arraycopyName) (List.mem_of_getElem? (i := 3) rfl)
  have lk3 := hts (Cond.static arraycopyName) (List.mem_of_getElem? (i := 4) rfl)
  have lk4 := hts (Cond.initialized "java/lang/System") (List.mem_of_getElem? (i := 5) rfl)
  have lk5 := hts (Cond.fieldLink RX0 15 "EnginesOnList$Book" "places" "[I") (List.mem_of_getElem? (i := 6) rfl)
  have lk6 := hts (Cond.fieldLink RX0 18 "EnginesOnList$Book" "numbers" "[I") (List.mem_of_getElem? (i := 7) rfl)
  have lk7 := hts (Cond.fieldLink RX0 21 "EnginesOnList$Book" "boys" "[I") (List.mem_of_getElem? (i := 8) rfl)
  have lk8 := hts (Cond.fieldLink RX0 30 "EnginesOnList$Book" "size" "I") (List.mem_of_getElem? (i := 9) rfl)
  have hinX0 : ∀ w ∈ wsX00, w ∈ wsX0_copyFrom := by decide +kernel
  have fin : ∀ (pc : Nat) (u : ST_X0) (H : Heap) (locs : List Loc) (ls : Array Slot), some u = some out → va_P G.1 vwCl (ce_X0 G.2.1 a0 u ++ ce_X0 G.2.1 a1 S1) H → va_D A (ce_X0 G.2.1 a0 u ++ ce_X0 G.2.1 a1 S1) → va_S A s.heap H locs → decode cX0_copyFrom pc = .ok (.return_, 1) → W p l e (headSpec wsX0_copyFrom rm_X0_copyFrom).room s m args below meth c H locs 0 0 (MQ below (QWv G (fun u => ce_X0 G.2.1 a0 u ++ ce_X0 G.2.1 a1 S1) out A) args s 0 0 A) (F0 m pc ls []) := fun pc u H locs ls ho hP hD hS hd => W.vret hx hb hr (fun t ht hW => ⟨⟨u, rfl, Option.some.inj ho, by first | (rw [ht]; exact hP) | (dsimp only; rw [ht]; exact hP), hD⟩, hS.F ht⟩) hS.2.2 hd
  generalize MQ below (QWv G (fun u => ce_X0 G.2.1 a0 u ++ ce_X0 G.2.1 a1 S1) out A) args s 0 0 A = Q at fin ⊢
  have go : ∀ (H : Heap) (locs : List Loc), va_P G.1 vwCl (ce_X0 G.2.1 a0 S0 ++ ce_X0 G.2.1 a1 S1) H → va_D A (ce_X0 G.2.1 a0 S0 ++ ce_X0 G.2.1 a1 S1) → va_S A s.heap H locs → ∀ (ls : Array Slot), lv_has ls 2 [(0, .ref a0.1), (1, .ref a1.1)] → W p l e (headSpec wsX0_copyFrom rm_X0_copyFrom).room s m args below meth c H locs 0 0 Q (F0 m 0 ls []) := by
    intro H locs hP hD hS ls hl
    refine lv_aload_n hx hb dX0_copyFrom_0 rfl (lv_at hl 1 rfl) ?_
    refine va_get (D := G.1) (ci := 0) (v := .ref a1.2.1) (C := RX0) (T := TX0) (N := 5) hx hb hts hinX0 hown hK hP 5 rfl rfl 0 (by decide) lk0 (fun _ h9 => h9) rfl dX0_copyFrom_1 ?_
    refine lv_iconst (v := 0) hx hb dX0_copyFrom_4 (by decide) ?_
    refine lv_aload_n hx hb dX0_copyFrom_5 rfl (lv_at hl 0 rfl) ?_
    refine va_get (D := G.1) (ci := 0) (v := .ref a0.2.1) (C := RX0) (T := TX0) (N := 5) hx hb hts hinX0 hown hK hP 0 rfl rfl 0 (by decide) lk0 (fun _ h9 => h9) rfl dX0_copyFrom_6 ?_
    refine lv_iconst (v := 0) hx hb dX0_copyFrom_9 (by decide) ?_
    refine lv_bipush (v := 12) hx hb dX0_copyFrom_10 (by decide) ?_
    refine va_copyi hx hb (hml.trans hl.1.symm) hown lk1 lk2 lk3 lk4 hK hP hD hS 6 1 0 0 rfl rfl rfl rfl rfl (sp := 0) (dp := 0) (n := 12) (by decide) (by decide) (by decide) (Nat.le_of_ble_eq_true rfl) (Nat.le_of_ble_eq_true rfl) (fun _ _ => rfl) (Nat.le_of_ble_eq_true rfl) (Nat.le_of_ble_eq_true rfl) dX0_copyFrom_12 (fun H locs hP hD hS => ?_)
    have hP : va_P G.1 vwCl (ce_X0 G.2.1 a0 ((va_cpy S1.1 S0.1 0 0 12), S0.2.1, S0.2.2.1, S0.2.2.2.1, S0.2.2.2.2) ++ ce_X0 G.2.1 a1 S1) H := hP
    have hD : va_D A (ce_X0 G.2.1 a0 ((va_cpy S1.1 S0.1 0 0 12), S0.2.1, S0.2.2.1, S0.2.2.2.1, S0.2.2.2.2) ++ ce_X0 G.2.1 a1 S1) := hD
    refine lv_aload_n hx hb dX0_copyFrom_15 rfl (lv_at hl 1 rfl) ?_
    refine va_get (D := G.1) (ci := 0) (v := .ref a1.2.2.1) (C := RX0) (T := TX0) (N := 5) hx hb hts hinX0 hown hK hP 5 rfl rfl 1 (by decide) lk5 (fun _ h9 => h9) rfl dX0_copyFrom_16 ?_
    refine lv_iconst (v := 0) hx hb dX0_copyFrom_19 (by decide) ?_
    refine lv_aload_n hx hb dX0_copyFrom_20 rfl (lv_at hl 0 rfl) ?_
    refine va_get (D := G.1) (ci := 0) (v := .ref a0.2.2.1) (C := RX0) (T := TX0) (N := 5) hx hb hts hinX0 hown hK hP 0 rfl rfl 1 (by decide) lk5 (fun _ h9 => h9) rfl dX0_copyFrom_21 ?_
    refine lv_iconst (v := 0) hx hb dX0_copyFrom_24 (by decide) ?_
    refine lv_bipush (v := 12) hx hb dX0_copyFrom_25 (by decide) ?_
    refine va_copyi hx hb (hml.trans hl.1.symm) hown lk1 lk2 lk3 lk4 hK hP hD hS 7 2 0 0 rfl rfl rfl rfl rfl (sp := 0) (dp := 0) (n := 12) (by decide) (by decide) (by decide) (Nat.le_of_ble_eq_true rfl) (Nat.le_of_ble_eq_true rfl) (fun _ _ => rfl) (Nat.le_of_ble_eq_true rfl) (Nat.le_of_ble_eq_true rfl) dX0_copyFrom_27 (fun H locs hP hD hS => ?_)
    have hP : va_P G.1 vwCl (ce_X0 G.2.1 a0 ((va_cpy S1.1 S0.1 0 0 12), (va_cpy S1.2.1 S0.2.1 0 0 12), S0.2.2.1, S0.2.2.2.1, S0.2.2.2.2) ++ ce_X0 G.2.1 a1 S1) H := hP
    have hD : va_D A (ce_X0 G.2.1 a0 ((va_cpy S1.1 S0.1 0 0 12), (va_cpy S1.2.1 S0.2.1 0 0 12), S0.2.2.1, S0.2.2.2.1, S0.2.2.2.2) ++ ce_X0 G.2.1 a1 S1) := hD
    refine lv_aload_n hx hb dX0_copyFrom_30 rfl (lv_at hl 1 rfl) ?_
    refine va_get (D := G.1) (ci := 0) (v := .ref a1.2.2.2.1) (C := RX0) (T := TX0) (N := 5) hx hb hts hinX0 hown hK hP 5 rfl rfl 2 (by decide) lk6 (fun _ h9 => h9) rfl dX0_copyFrom_31 ?_
    refine lv_iconst (v := 0) hx hb dX0_copyFrom_34 (by decide) ?_
    refine lv_aload_n hx hb dX0_copyFrom_35 rfl (lv_at hl 0 rfl) ?_
    refine va_get (D := G.1) (ci := 0) (v := .ref a0.2.2.2.1) (C := RX0) (T := TX0) (N := 5) hx hb hts hinX0 hown hK hP 0 rfl rfl 2 (by decide) lk6 (fun _ h9 => h9) rfl dX0_copyFrom_36 ?_
    refine lv_iconst (v := 0) hx hb dX0_copyFrom_39 (by decide) ?_
    refine lv_bipush (v := 12) hx hb dX0_copyFrom_40 (by decide) ?_
    refine va_copyi hx hb (hml.trans hl.1.symm) hown lk1 lk2 lk3 lk4 hK hP hD hS 8 3 0 0 rfl rfl rfl rfl rfl (sp := 0) (dp := 0) (n := 12) (by decide) (by decide) (by decide) (Nat.le_of_ble_eq_true rfl) (Nat.le_of_ble_eq_true rfl) (fun _ _ => rfl) (Nat.le_of_ble_eq_true rfl) (Nat.le_of_ble_eq_true rfl) dX0_copyFrom_42 (fun H locs hP hD hS => ?_)
    have hP : va_P G.1 vwCl (ce_X0 G.2.1 a0 ((va_cpy S1.1 S0.1 0 0 12), (va_cpy S1.2.1 S0.2.1 0 0 12), (va_cpy S1.2.2.1 S0.2.2.1 0 0 12), S0.2.2.2.1, S0.2.2.2.2) ++ ce_X0 G.2.1 a1 S1) H := hP
    have hD : va_D A (ce_X0 G.2.1 a0 ((va_cpy S1.1 S0.1 0 0 12), (va_cpy S1.2.1 S0.2.1 0 0 12), (va_cpy S1.2.2.1 S0.2.2.1 0 0 12), S0.2.2.2.1, S0.2.2.2.2) ++ ce_X0 G.2.1 a1 S1) := hD
    refine lv_aload_n hx hb dX0_copyFrom_45 rfl (lv_at hl 1 rfl) ?_
    refine va_get (D := G.1) (ci := 0) (v := .ref a1.2.2.2.2) (C := RX0) (T := TX0) (N := 5) hx hb hts hinX0 hown hK hP 5 rfl rfl 3 (by decide) lk7 (fun _ h9 => h9) rfl dX0_copyFrom_46 ?_
    refine lv_iconst (v := 0) hx hb dX0_copyFrom_49 (by decide) ?_
    refine lv_aload_n hx hb dX0_copyFrom_50 rfl (lv_at hl 0 rfl) ?_
    refine va_get (D := G.1) (ci := 0) (v := .ref a0.2.2.2.2) (C := RX0) (T := TX0) (N := 5) hx hb hts hinX0 hown hK hP 0 rfl rfl 3 (by decide) lk7 (fun _ h9 => h9) rfl dX0_copyFrom_51 ?_
    refine lv_iconst (v := 0) hx hb dX0_copyFrom_54 (by decide) ?_
    refine lv_bipush (v := 12) hx hb dX0_copyFrom_55 (by decide) ?_
    refine va_copyi hx hb (hml.trans hl.1.symm) hown lk1 lk2 lk3 lk4 hK hP hD hS 9 4 0 0 rfl rfl rfl rfl rfl (sp := 0) (dp := 0) (n := 12) (by decide) (by decide) (by decide) (Nat.le_of_ble_eq_true rfl) (Nat.le_of_ble_eq_true rfl) (fun _ _ => rfl) (Nat.le_of_ble_eq_true rfl) (Nat.le_of_ble_eq_true rfl) dX0_copyFrom_57 (fun H locs hP hD hS => ?_)
    have hP : va_P G.1 vwCl (ce_X0 G.2.1 a0 ((va_cpy S1.1 S0.1 0 0 12), (va_cpy S1.2.1 S0.2.1 0 0 12), (va_cpy S1.2.2.1 S0.2.2.1 0 0 12), (va_cpy S1.2.2.2.1 S0.2.2.2.1 0 0 12), S0.2.2.2.2) ++ ce_X0 G.2.1 a1 S1) H := hP
    have hD : va_D A (ce_X0 G.2.1 a0 ((va_cpy S1.1 S0.1 0 0 12), (va_cpy S1.2.1 S0.2.1 0 0 12), (va_cpy S1.2.2.1 S0.2.2.1 0 0 12), (va_cpy S1.2.2.2.1 S0.2.2.2.1 0 0 12), S0.2.2.2.2) ++ ce_X0 G.2.1 a1 S1) := hD
    refine lv_aload_n hx hb dX0_copyFrom_60 rfl (lv_at hl 0 rfl) ?_
    refine lv_aload_n hx hb dX0_copyFrom_61 rfl (lv_at hl 1 rfl) ?_
    refine va_get (D := G.1) (ci := 0) (v := .int S1.2.2.2.2) (C := RX0) (T := TX0) (N := 5) hx hb hts hinX0 hown hK hP 5 rfl rfl 4 (by decide) lk8 (fun _ h9 => h9) rfl dX0_copyFrom_62 ?_
    refine va_put (D := G.1) (ci := 0) (v := .int S1.2.2.2.2) (ty := .int) (C := RX0) (T := TX0) (N := 5) hx hb hts hinX0 tyX0 tyX0_ok nmX0 hown hK hP hD hS 0 rfl rfl 4 (by decide) lk8 (fun _ h9 => h9) rfl (by decide +kernel) rfl rfl (Nat.le_of_ble_eq_true rfl) dX0_copyFrom_65 (fun H locs hP hD hS => ?_)
    have hP : va_P G.1 vwCl (ce_X0 G.2.1 a0 ((va_cpy S1.1 S0.1 0 0 12), (va_cpy S1.2.1 S0.2.1 0 0 12), (va_cpy S1.2.2.1 S0.2.2.1 0 0 12), (va_cpy S1.2.2.2.1 S0.2.2.2.1 0 0 12), S1.2.2.2.2) ++ ce_X0 G.2.1 a1 S1) H := hP
    have hD : va_D A (ce_X0 G.2.1 a0 ((va_cpy S1.1 S0.1 0 0 12), (va_cpy S1.2.1 S0.2.1 0 0 12), (va_cpy S1.2.2.1 S0.2.2.1 0 0 12), (va_cpy S1.2.2.2.1 S0.2.2.2.1 0 0 12), S1.2.2.2.2) ++ ce_X0 G.2.1 a1 S1) := hD
    exact fin _ _ _ _ _ hf hP hD hS dX0_copyFrom_68
  exact go _ _ hP hD hS _ hl
abbrev rm_X0_holds : Room := { frames := 1, cells := 0, slots := 0, locals := 24 }
set_option maxHeartbeats 4000000 in
set_option maxRecDepth 100000 in
theorem c_X0_holds (l : Launch) (G : zG) (a0 : AT_X0) (sz : Nat) (S0 : ST_X0) (p1 : Int32) (out : Int32) (hf : f_X0_holds S0 p1 = some out) : Met l yX0_holds wsX0_holds rm_X0_holds (PcM G (ce_X0 G.2.1 a0 S0) [.ref a0.1, .int p1] sz) (QRo G (ce_X0 G.2.1 a0 S0) out (va_A (ce_X0 G.2.1 a0 S0) sz)) 0 0 (va_A (ce_X0 G.2.1 a0 S0) sz) := by
  rw [f_X0_holds] at hf
  refine Met.ofW (cc := cX0_holds) (maxL := 2) (ret := (some .boolean)) (by decide) rfl ?_
  intro p e s m args below meth c s₁ B hml hv
  obtain ⟨hargs, hsz, hP, hK, hD0, hE⟩ := hv
  have hx := B.exec
  have hb := B.bytes
  have hr := B.returns
  have hts := atoms_spec (ws := wsX0_holds) B.pre
  have hown : s.vm.findClass RX0 = some m.cls := findClass_of_methodNamed B.named
  have hlocks := B.notSynchronized
  subst hsz
  have hD := hD0.self (sz := s.heap.size)
  generalize hAe : va_A (ce_X0 G.2.1 a0 S0) s.heap.size = A at hD hE ⊢
  have hA : ∀ q : Nat, s.heap.size ≤ q → A q := fun q h => by rw [← hAe]; exact Or.inr h
  have hS : va_S A s.heap s.heap [] := va_S.rf
  have hl := lv_entry ([.ref a0.1, .int p1]) (n := 2) (Nat.le_of_ble_eq_true rfl)
  have hent : entryFrame m args 2 = F0 m 0 ((lg_sl ([.ref a0.1, .int p1]) ++ List.replicate (2 - (lg_sl ([.ref a0.1, .int p1])).length) Slot.unset).toArray) [] := by rw [hargs, lg_entry_eq]
  rw [hent]
  clear hent
  generalize (lg_sl ([.ref a0.1, .int p1]) ++ List.replicate (2 - (lg_sl ([.ref a0.1, .int p1])).length) Slot.unset).toArray = ls at hl ⊢
  have hl : lv_has ls 2 [(0, .ref a0.1), (1, .int p1)] := hl
  have lk0 := hts (Cond.fieldLink RX0 30 "EnginesOnList$Book" "size" "I") (List.mem_of_getElem? (i := 1) rfl)
  have hinX0 : ∀ w ∈ wsX00, w ∈ wsX0_holds := by decide +kernel
  have fin : ∀ (pc : Nat) (v : Int32) (H : Heap) (locs : List Loc) (ls : Array Slot), some v = some out → narrow .boolean (.int v) = .int v → va_P G.1 vwCl (ce_X0 G.2.1 a0 S0) H → va_D A (ce_X0 G.2.1 a0 S0) → va_S A s.heap H locs → decode cX0_holds pc = .ok (.ireturn, 1) → W p l e (headSpec wsX0_holds rm_X0_holds).room s m args below meth c H locs 0 0 (MQ below (QRo G (ce_X0 G.2.1 a0 S0) out A) args s 0 0 A) (F0 m pc ls [.int v]) := fun pc v H locs ls ho hn hP hD hS hd => W.zret (v := v) hx hb hr hn (fun t ht hW => ⟨⟨v, (), rfl, Option.some.inj ho, by first | (rw [ht]; exact hP) | (dsimp only; rw [ht]; exact hP)⟩, hS.F ht⟩) hS.2.2 hd
  generalize MQ below (QRo G (ce_X0 G.2.1 a0 S0) out A) args s 0 0 A = Q at fin ⊢
  have blk22 : f_X0_holds_b22 S0 = some out → ∀ (H : Heap) (locs : List Loc), va_P G.1 vwCl (ce_X0 G.2.1 a0 S0) H → va_D A (ce_X0 G.2.1 a0 S0) → va_S A s.heap H locs → ∀ (ls : Array Slot), lv_has ls 2 [] → W p l e (headSpec wsX0_holds rm_X0_holds).room s m args below meth c H locs 0 0 Q (F0 m 22 ls []) := by
    intro hf H locs hP hD hS ls hl
    rw [f_X0_holds_b22] at hf
    refine lv_iconst (v := 0) hx hb dX0_holds_22 (by decide) ?_
    exact fin _ _ _ _ _ hf rfl hP hD hS dX0_holds_23
  have go : ∀ (H : Heap) (locs : List Loc), va_P G.1 vwCl (ce_X0 G.2.1 a0 S0) H → va_D A (ce_X0 G.2.1 a0 S0) → va_S A s.heap H locs → ∀ (ls : Array Slot), lv_has ls 2 [(0, .ref a0.1), (1, .int p1)] → W p l e (headSpec wsX0_holds rm_X0_holds).room s m args below meth c H locs 0 0 Q (F0 m 0 ls []) := by
    intro H locs hP hD hS ls hl
    refine lv_iload_n hx hb dX0_holds_0 rfl (lv_at hl 1 rfl) ?_
    refine lv_if_lt (tgt := 22) hx hb dX0_holds_1 (by decide) (fun c1 => ?_) (fun c1 => ?_)
    · replace hf := ob_pos c1 hf
      exact blk22  hf _ _ hP hD hS _ (lv_sub hl [] rfl)
    · replace hf := ob_neg c1 hf
      refine lv_iload_n hx hb dX0_holds_4 rfl (lv_at hl 1 rfl) ?_
      refine lv_aload_n hx hb dX0_holds_5 rfl (lv_at hl 0 rfl) ?_
      refine va_get (D := G.1) (ci := 0) (v := .int S0.2.2.2.2) (C := RX0) (T := TX0) (N := 5) hx hb hts hinX0 hown hK hP 0 rfl rfl 4 (by decide) lk0 (fun _ h9 => h9) rfl dX0_holds_6 ?_
      refine lv_icmp_ge (tgt := 22) hx hb dX0_holds_9 (by decide) (fun c2 => ?_) (fun c2 => ?_)
      · replace hf := ob_pos c2 hf
        exact blk22  hf _ _ hP hD hS _ (lv_sub hl [] rfl)
      · replace hf := ob_neg c2 hf
        refine lv_iload_n hx hb dX0_holds_12 rfl (lv_at hl 1 rfl) ?_
        refine lv_bipush (v := 12) hx hb dX0_holds_13 (by decide) ?_
        refine lv_icmp_ge (tgt := 22) hx hb dX0_holds_15 (by decide) (fun c3 => ?_) (fun c3 => ?_)
        · replace hf := ob_pos c3 hf
          exact blk22  hf _ _ hP hD hS _ (lv_sub hl [] rfl)
        · replace hf := ob_neg c3 hf
          refine lv_iconst (v := 1) hx hb dX0_holds_18 (by decide) ?_
          refine lv_goto (tgt := 23) hx hb dX0_holds_19 (by decide) ?_
          exact fin _ _ _ _ _ hf rfl hP hD hS dX0_holds_23
  exact go _ _ hP hD hS _ hl
abbrev rm_X0_add : Room := { frames := 1, cells := 0, slots := 0, locals := 24 }
set_option maxHeartbeats 4000000 in
set_option maxRecDepth 100000 in
theorem c_X0_add (l : Launch) (G : zG) (a0 : AT_X0) (sz : Nat) (S0 : ST_X0) (p1 : Int32) (p2 : Int32) (p3 : Int32) (p4 : Int32) (out : Int32 × ST_X0) (hf : f_X0_add S0 p1 p2 p3 p4 = some out) : Met l yX0_add wsX0_add rm_X0_add (PcM G (ce_X0 G.2.1 a0 S0) [.ref a0.1, .int p1, .int p2, .int p3, .int p4] sz) (QWr G (fun u => ce_X0 G.2.1 a0 u) out (va_A (ce_X0 G.2.1 a0 S0) sz)) 0 0 (va_A (ce_X0 G.2.1 a0 S0) sz) := by
  rw [f_X0_add] at hf
  refine Met.ofW (cc := cX0_add) (maxL := 5) (ret := (some .boolean)) (by decide) rfl ?_
  intro p e s m args below meth c s₁ B hml hv
  obtain ⟨hargs, hsz, hP, hK, hD0, hE⟩ := hv
  have hx := B.exec
  have hb := B.bytes
  have hr := B.returns
  have hts := atoms_spec (ws := wsX0_add) B.pre
  have hown : s.vm.findClass RX0 = some m.cls := findClass_of_methodNamed B.named
  have hlocks := B.notSynchronized
  subst hsz
  have hD := hD0.self (sz := s.heap.size)
  generalize hAe : va_A (ce_X0 G.2.1 a0 S0) s.heap.size = A at hD hE ⊢
  have hA : ∀ q : Nat, s.heap.size ≤ q → A q := fun q h => by rw [← hAe]; exact Or.inr h
  have hS : va_S A s.heap s.heap [] := va_S.rf
  have hl := lv_entry ([.ref a0.1, .int p1, .int p2, .int p3, .int p4]) (n := 5) (Nat.le_of_ble_eq_true rfl)
  have hent : entryFrame m args 5 = F0 m 0 ((lg_sl ([.ref a0.1, .int p1, .int p2, .int p3, .int p4]) ++ List.replicate (5 - (lg_sl ([.ref a0.1, .int p1, .int p2, .int p3, .int p4])).length) Slot.unset).toArray) [] := by rw [hargs, lg_entry_eq]
  rw [hent]
  clear hent
  generalize (lg_sl ([.ref a0.1, .int p1, .int p2, .int p3, .int p4]) ++ List.replicate (5 - (lg_sl ([.ref a0.1, .int p1, .int p2, .int p3, .int p4])).length) Slot.unset).toArray = ls at hl ⊢
  have hl : lv_has ls 5 [(0, .ref a0.1), (1, .int p1), (2, .int p2), (3, .int p3), (4, .int p4)] := hl
  have lk0 := hts (Cond.fieldLink RX0 30 "EnginesOnList$Book" "size" "I") (List.mem_of_getElem? (i := 1) rfl)
  have lk1 := hts (Cond.fieldLink RX0 9 "EnginesOnList$Book" "days" "[I") (List.mem_of_getElem? (i := 2) rfl)
  have lk2 := hts (Cond.fieldLink RX0 15 "EnginesOnList$Book" "places" "[I") (List.mem_of_getElem? (i := 3) rfl)
  have lk3 := hts (Cond.fieldLink RX0 18 "EnginesOnList$Book" "numbers" "[I") (List.mem_of_getElem? (i := 4) rfl)
  have lk4 := hts (Cond.fieldLink RX0 21 "EnginesOnList$Book" "boys" "[I") (List.mem_of_getElem? (i := 5) rfl)
  have hinX0 : ∀ w ∈ wsX00, w ∈ wsX0_add := by decide +kernel
  have fin : ∀ (pc : Nat) (v : Int32) (u : ST_X0) (H : Heap) (locs : List Loc) (ls : Array Slot), some (v, u) = some out → narrow .boolean (.int v) = .int v → va_P G.1 vwCl (ce_X0 G.2.1 a0 u) H → va_D A (ce_X0 G.2.1 a0 u) → va_S A s.heap H locs → decode cX0_add pc = .ok (.ireturn, 1) → W p l e (headSpec wsX0_add rm_X0_add).room s m args below meth c H locs 0 0 (MQ below (QWr G (fun u => ce_X0 G.2.1 a0 u) out A) args s 0 0 A) (F0 m pc ls [.int v]) := fun pc v u H locs ls ho hn hP hD hS hd => W.zret (v := v) hx hb hr hn (fun t ht hW => ⟨⟨v, u, rfl, ob_pair ho, by first | (rw [ht]; exact hP) | (dsimp only; rw [ht]; exact hP), hD⟩, hS.F ht⟩) hS.2.2 hd
  generalize MQ below (QWr G (fun u => ce_X0 G.2.1 a0 u) out A) args s 0 0 A = Q at fin ⊢
  have go : ∀ (H : Heap) (locs : List Loc), va_P G.1 vwCl (ce_X0 G.2.1 a0 S0) H → va_D A (ce_X0 G.2.1 a0 S0) → va_S A s.heap H locs → ∀ (ls : Array Slot), lv_has ls 5 [(0, .ref a0.1), (1, .int p1), (2, .int p2), (3, .int p3), (4, .int p4)] → W p l e (headSpec wsX0_add rm_X0_add).room s m args below meth c H locs 0 0 Q (F0 m 0 ls []) := by
    intro H locs hP hD hS ls hl
    refine lv_aload_n hx hb dX0_add_0 rfl (lv_at hl 0 rfl) ?_
    refine va_get (D := G.1) (ci := 0) (v := .int S0.2.2.2.2) (C := RX0) (T := TX0) (N := 5) hx hb hts hinX0 hown hK hP 0 rfl rfl 4 (by decide) lk0 (fun _ h9 => h9) rfl dX0_add_1 ?_
    refine lv_bipush (v := 12) hx hb dX0_add_4 (by decide) ?_
    refine lv_icmp_lt (tgt := 11) hx hb dX0_add_6 (by decide) (fun c1 => ?_) (fun c1 => ?_)
    · replace hf := ob_pos c1 hf
      refine lv_aload_n hx hb dX0_add_11 rfl (lv_at hl 0 rfl) ?_
      refine va_get (D := G.1) (ci := 0) (v := .ref a0.2.1) (C := RX0) (T := TX0) (N := 5) hx hb hts hinX0 hown hK hP 0 rfl rfl 0 (by decide) lk1 (fun _ h9 => h9) rfl dX0_add_12 ?_
      refine lv_aload_n hx hb dX0_add_15 rfl (lv_at hl 0 rfl) ?_
      refine va_get (D := G.1) (ci := 0) (v := .int S0.2.2.2.2) (C := RX0) (T := TX0) (N := 5) hx hb hts hinX0 hown hK hP 0 rfl rfl 4 (by decide) lk0 (fun _ h9 => h9) rfl dX0_add_16 ?_
      refine lv_iload_n hx hb dX0_add_19 rfl (lv_at hl 1 rfl) ?_
      obtain ⟨hg2, hf⟩ := ob_guard hf
      refine va_iast hx hb hK hP hD hS 1 0 rfl rfl hg2 dX0_add_20 (fun H locs hP hD hS => ?_)
      have hP : va_P G.1 vwCl (ce_X0 G.2.1 a0 ((upd S0.1 (S0.2.2.2.2.toNatClampNeg) p1), S0.2.1, S0.2.2.1, S0.2.2.2.1, S0.2.2.2.2)) H := hP
      have hD : va_D A (ce_X0 G.2.1 a0 ((upd S0.1 (S0.2.2.2.2.toNatClampNeg) p1), S0.2.1, S0.2.2.1, S0.2.2.2.1, S0.2.2.2.2)) := hD
      refine lv_aload_n hx hb dX0_add_21 rfl (lv_at hl 0 rfl) ?_
      refine va_get (D := G.1) (ci := 0) (v := .ref a0.2.2.1) (C := RX0) (T := TX0) (N := 5) hx hb hts hinX0 hown hK hP 0 rfl rfl 1 (by decide) lk2 (fun _ h9 => h9) rfl dX0_add_22 ?_
      refine lv_aload_n hx hb dX0_add_25 rfl (lv_at hl 0 rfl) ?_
      refine va_get (D := G.1) (ci := 0) (v := .int S0.2.2.2.2) (C := RX0) (T := TX0) (N := 5) hx hb hts hinX0 hown hK hP 0 rfl rfl 4 (by decide) lk0 (fun _ h9 => h9) rfl dX0_add_26 ?_
      refine lv_iload_n hx hb dX0_add_29 rfl (lv_at hl 2 rfl) ?_
      obtain ⟨hg3, hf⟩ := ob_guard hf
      refine va_iast hx hb hK hP hD hS 2 0 rfl rfl hg3 dX0_add_30 (fun H locs hP hD hS => ?_)
      have hP : va_P G.1 vwCl (ce_X0 G.2.1 a0 ((upd S0.1 (S0.2.2.2.2.toNatClampNeg) p1), (upd S0.2.1 (S0.2.2.2.2.toNatClampNeg) p2), S0.2.2.1, S0.2.2.2.1, S0.2.2.2.2)) H := hP
      have hD : va_D A (ce_X0 G.2.1 a0 ((upd S0.1 (S0.2.2.2.2.toNatClampNeg) p1), (upd S0.2.1 (S0.2.2.2.2.toNatClampNeg) p2), S0.2.2.1, S0.2.2.2.1, S0.2.2.2.2)) := hD
      refine lv_aload_n hx hb dX0_add_31 rfl (lv_at hl 0 rfl) ?_
      refine va_get (D := G.1) (ci := 0) (v := .ref a0.2.2.2.1) (C := RX0) (T := TX0) (N := 5) hx hb hts hinX0 hown hK hP 0 rfl rfl 2 (by decide) lk3 (fun _ h9 => h9) rfl dX0_add_32 ?_
      refine lv_aload_n hx hb dX0_add_35 rfl (lv_at hl 0 rfl) ?_
      refine va_get (D := G.1) (ci := 0) (v := .int S0.2.2.2.2) (C := RX0) (T := TX0) (N := 5) hx hb hts hinX0 hown hK hP 0 rfl rfl 4 (by decide) lk0 (fun _ h9 => h9) rfl dX0_add_36 ?_
      refine lv_iload_n hx hb dX0_add_39 rfl (lv_at hl 3 rfl) ?_
      obtain ⟨hg4, hf⟩ := ob_guard hf
      refine va_iast hx hb hK hP hD hS 3 0 rfl rfl hg4 dX0_add_40 (fun H locs hP hD hS => ?_)
      have hP : va_P G.1 vwCl (ce_X0 G.2.1 a0 ((upd S0.1 (S0.2.2.2.2.toNatClampNeg) p1), (upd S0.2.1 (S0.2.2.2.2.toNatClampNeg) p2), (upd S0.2.2.1 (S0.2.2.2.2.toNatClampNeg) p3), S0.2.2.2.1, S0.2.2.2.2)) H := hP
      have hD : va_D A (ce_X0 G.2.1 a0 ((upd S0.1 (S0.2.2.2.2.toNatClampNeg) p1), (upd S0.2.1 (S0.2.2.2.2.toNatClampNeg) p2), (upd S0.2.2.1 (S0.2.2.2.2.toNatClampNeg) p3), S0.2.2.2.1, S0.2.2.2.2)) := hD
      refine lv_aload_n hx hb dX0_add_41 rfl (lv_at hl 0 rfl) ?_
      refine va_get (D := G.1) (ci := 0) (v := .ref a0.2.2.2.2) (C := RX0) (T := TX0) (N := 5) hx hb hts hinX0 hown hK hP 0 rfl rfl 3 (by decide) lk4 (fun _ h9 => h9) rfl dX0_add_42 ?_
      refine lv_aload_n hx hb dX0_add_45 rfl (lv_at hl 0 rfl) ?_
      refine va_get (D := G.1) (ci := 0) (v := .int S0.2.2.2.2) (C := RX0) (T := TX0) (N := 5) hx hb hts hinX0 hown hK hP 0 rfl rfl 4 (by decide) lk0 (fun _ h9 => h9) rfl dX0_add_46 ?_
      refine lv_iload hx hb dX0_add_49 (lv_at hl 4 rfl) ?_
      obtain ⟨hg5, hf⟩ := ob_guard hf
      refine va_iast hx hb hK hP hD hS 4 0 rfl rfl hg5 dX0_add_51 (fun H locs hP hD hS => ?_)
      have hP : va_P G.1 vwCl (ce_X0 G.2.1 a0 ((upd S0.1 (S0.2.2.2.2.toNatClampNeg) p1), (upd S0.2.1 (S0.2.2.2.2.toNatClampNeg) p2), (upd S0.2.2.1 (S0.2.2.2.2.toNatClampNeg) p3), (upd S0.2.2.2.1 (S0.2.2.2.2.toNatClampNeg) p4), S0.2.2.2.2)) H := hP
      have hD : va_D A (ce_X0 G.2.1 a0 ((upd S0.1 (S0.2.2.2.2.toNatClampNeg) p1), (upd S0.2.1 (S0.2.2.2.2.toNatClampNeg) p2), (upd S0.2.2.1 (S0.2.2.2.2.toNatClampNeg) p3), (upd S0.2.2.2.1 (S0.2.2.2.2.toNatClampNeg) p4), S0.2.2.2.2)) := hD
      refine lv_aload_n hx hb dX0_add_52 rfl (lv_at hl 0 rfl) ?_
      refine lv_dup hx hb dX0_add_53 rfl ?_
      refine va_get (D := G.1) (ci := 0) (v := .int S0.2.2.2.2) (C := RX0) (T := TX0) (N := 5) hx hb hts hinX0 hown hK hP 0 rfl rfl 4 (by decide) lk0 (fun _ h9 => h9) rfl dX0_add_54 ?_
      refine lv_iconst (v := 1) hx hb dX0_add_57 (by decide) ?_
      refine lv_iadd hx hb dX0_add_58 ?_
      refine va_put (D := G.1) (ci := 0) (v := .int (S0.2.2.2.2 + 1)) (ty := .int) (C := RX0) (T := TX0) (N := 5) hx hb hts hinX0 tyX0 tyX0_ok nmX0 hown hK hP hD hS 0 rfl rfl 4 (by decide) lk0 (fun _ h9 => h9) rfl (by decide +kernel) rfl rfl (Nat.le_of_ble_eq_true rfl) dX0_add_59 (fun H locs hP hD hS => ?_)
      have hP : va_P G.1 vwCl (ce_X0 G.2.1 a0 ((upd S0.1 (S0.2.2.2.2.toNatClampNeg) p1), (upd S0.2.1 (S0.2.2.2.2.toNatClampNeg) p2), (upd S0.2.2.1 (S0.2.2.2.2.toNatClampNeg) p3), (upd S0.2.2.2.1 (S0.2.2.2.2.toNatClampNeg) p4), S0.2.2.2.2 + 1)) H := hP
      have hD : va_D A (ce_X0 G.2.1 a0 ((upd S0.1 (S0.2.2.2.2.toNatClampNeg) p1), (upd S0.2.1 (S0.2.2.2.2.toNatClampNeg) p2), (upd S0.2.2.1 (S0.2.2.2.2.toNatClampNeg) p3), (upd S0.2.2.2.1 (S0.2.2.2.2.toNatClampNeg) p4), S0.2.2.2.2 + 1)) := hD
      refine lv_iconst (v := 1) hx hb dX0_add_62 (by decide) ?_
      exact fin _ _ _ _ _ _ hf rfl hP hD hS dX0_add_63
    · replace hf := ob_neg c1 hf
      refine lv_iconst (v := 0) hx hb dX0_add_9 (by decide) ?_
      exact fin _ _ _ _ _ _ hf rfl hP hD hS dX0_add_10
  exact go _ _ hP hD hS _ hl
abbrev rm_X0_readBy : Room := { frames := 2, cells := 0, slots := 0, locals := 45 }
set_option maxHeartbeats 4000000 in
set_option maxRecDepth 100000 in
theorem c_X0_readBy (l : Launch) (G : zG) (a0 : AT_X0) (sz : Nat) (S0 : ST_X0) (p1 : Int32) (out : Int32) (hf : f_X0_readBy S0 p1 = some out) : Met l yX0_readBy wsX0_readBy rm_X0_readBy (PcM G (ce_X0 G.2.1 a0 S0) [.ref a0.1, .int p1] sz) (QRo G (ce_X0 G.2.1 a0 S0) out (va_A (ce_X0 G.2.1 a0 S0) sz)) 0 0 (va_A (ce_X0 G.2.1 a0 S0) sz) := by
  rw [f_X0_readBy] at hf
  refine Met.ofW (cc := cX0_readBy) (maxL := 4) (ret := (some .int)) (by decide) rfl ?_
  intro p e s m args below meth c s₁ B hml hv
  obtain ⟨hargs, hsz, hP, hK, hD0, hE⟩ := hv
  have hx := B.exec
  have hb := B.bytes
  have hr := B.returns
  have hts := atoms_spec (ws := wsX0_readBy) B.pre
  have hown : s.vm.findClass RX0 = some m.cls := findClass_of_methodNamed B.named
  have hlocks := B.notSynchronized
  subst hsz
  have hD := hD0.self (sz := s.heap.size)
  generalize hAe : va_A (ce_X0 G.2.1 a0 S0) s.heap.size = A at hD hE ⊢
  have hA : ∀ q : Nat, s.heap.size ≤ q → A q := fun q h => by rw [← hAe]; exact Or.inr h
  have hS : va_S A s.heap s.heap [] := va_S.rf
  have hl := lv_entry ([.ref a0.1, .int p1]) (n := 4) (Nat.le_of_ble_eq_true rfl)
  have hent : entryFrame m args 4 = F0 m 0 ((lg_sl ([.ref a0.1, .int p1]) ++ List.replicate (4 - (lg_sl ([.ref a0.1, .int p1])).length) Slot.unset).toArray) [] := by rw [hargs, lg_entry_eq]
  rw [hent]
  clear hent
  generalize (lg_sl ([.ref a0.1, .int p1]) ++ List.replicate (4 - (lg_sl ([.ref a0.1, .int p1])).length) Slot.unset).toArray = ls at hl ⊢
  have hl : lv_has ls 4 [(0, .ref a0.1), (1, .int p1)] := hl
  have lk0 := hts (Cond.fieldLink RX0 30 "EnginesOnList$Book" "size" "I") (List.mem_of_getElem? (i := 1) rfl)
  have lk1 := hts (Cond.fieldLink RX0 21 "EnginesOnList$Book" "boys" "[I") (List.mem_of_getElem? (i := 2) rfl)
  have hinX0 : ∀ w ∈ wsX00, w ∈ wsX0_readBy := by decide +kernel
  have fin : ∀ (pc : Nat) (v : Int32) (H : Heap) (locs : List Loc) (ls : Array Slot), some v = some out → va_P G.1 vwCl (ce_X0 G.2.1 a0 S0) H → va_D A (ce_X0 G.2.1 a0 S0) → va_S A s.heap H locs → decode cX0_readBy pc = .ok (.ireturn, 1) → W p l e (headSpec wsX0_readBy rm_X0_readBy).room s m args below meth c H locs 0 0 (MQ below (QRo G (ce_X0 G.2.1 a0 S0) out A) args s 0 0 A) (F0 m pc ls [.int v]) := fun pc v H locs ls ho hP hD hS hd => W.iret (v := v) hx hb hr (fun t ht hW => ⟨⟨v, (), rfl, Option.some.inj ho, by first | (rw [ht]; exact hP) | (dsimp only; rw [ht]; exact hP)⟩, hS.F ht⟩) hS.2.2 hd
  generalize MQ below (QRo G (ce_X0 G.2.1 a0 S0) out A) args s 0 0 A = Q at fin ⊢
  have blk4 : ∀ (fu4 : Nat), ∀ (v1 : Int32) (v2 : Int32) (v3 : Int32), f_X0_readBy_b4 S0 fu4 v1 v2 v3 = some out → ∀ (H : Heap) (locs : List Loc), va_P G.1 vwCl (ce_X0 G.2.1 a0 S0) H → va_D A (ce_X0 G.2.1 a0 S0) → va_S A s.heap H locs → ∀ (ls : Array Slot), lv_has ls 4 [(0, .ref a0.1), (1, .int v1), (2, .int v2), (3, .int v3)] → W p l e (headSpec wsX0_readBy rm_X0_readBy).room s m args below meth c H locs 0 0 Q (F0 m 4 ls []) := by
    intro fu4
    induction fu4 with
    | zero => intro v1 v2 v3 hf; exact ob_none hf
    | succ fu4 ih4 =>
      intro v1 v2 v3 hf H locs hP hD hS ls hl
      rw [f_X0_readBy_b4] at hf
      have blk36 : ∀ (v1 : Int32) (v2 : Int32) (v3 : Int32), f_X0_readBy_b36 S0 (f_X0_readBy_b4 S0 fu4) v1 v2 v3 = some out → ∀ (H : Heap) (locs : List Loc), va_P G.1 vwCl (ce_X0 G.2.1 a0 S0) H → va_D A (ce_X0 G.2.1 a0 S0) → va_S A s.heap H locs → ∀ (ls : Array Slot), lv_has ls 4 [(0, .ref a0.1), (1, .int v1), (2, .int v2), (3, .int v3)] → W p l e (headSpec wsX0_readBy rm_X0_readBy).room s m args below meth c H locs 0 0 Q (F0 m 36 ls []) := by
        intro v1 v2 v3 hf H locs hP hD hS ls hl
        rw [f_X0_readBy_b36] at hf
        refine lv_iinc (v := v3 + 1) (lv' := [(3, .int (v3 + 1)), (0, .ref a0.1), (1, .int v1), (2, .int v2)]) hx hb dX0_readBy_36 hl (k := 3) rfl rfl (by decide) rfl (fun ls hl => ?_)
        refine lv_goto (tgt := 4) hx hb dX0_readBy_39 (by decide) ?_
        exact ih4 _ _ _ hf _ _ hP hD hS _ (lv_sub hl [1, 2, 3, 0] rfl)
      refine lv_iload_n hx hb dX0_readBy_4 rfl (lv_at hl 3 rfl) ?_
      refine lv_aload_n hx hb dX0_readBy_5 rfl (lv_at hl 0 rfl) ?_
      refine va_get (D := G.1) (ci := 0) (v := .int S0.2.2.2.2) (C := RX0) (T := TX0) (N := 5) hx hb hts hinX0 hown hK hP 0 rfl rfl 4 (by decide) lk0 (fun _ h9 => h9) rfl dX0_readBy_6 ?_
      refine lv_icmp_ge (tgt := 42) hx hb dX0_readBy_9 (by decide) (fun c1 => ?_) (fun c1 => ?_)
      · replace hf := ob_pos c1 hf
        refine lv_iload_n hx hb dX0_readBy_42 rfl (lv_at hl 2 rfl) ?_
        exact fin _ _ _ _ _ hf hP hD hS dX0_readBy_43
      · replace hf := ob_neg c1 hf
        refine lv_aload_n hx hb dX0_readBy_12 rfl (lv_at hl 0 rfl) ?_
        refine lv_iload_n hx hb dX0_readBy_13 rfl (lv_at hl 3 rfl) ?_
        obtain ⟨r2, hr2, hf⟩ := ob_bind hf
        have hFc := va_free (wc := ce_X0 G.2.1 a0 S0) hD hS hA [0, 1, 2, 3, 4] rfl
        refine zc_ro (va_runV (As := [.int v3]) (rest := []) ⟨hx, hb, hml, hown, hts⟩ (c_X0_holds l G a0 H.size S0 v3 _ hr2) (cwV 1 hts gX0_readBy_X0_holds rfl rfl rfl (by decide +kernel) ⟨Nat.le_of_ble_eq_true rfl, Nat.le_of_ble_eq_true rfl⟩) ⟨PcM.blind, va_recv hK hP (ci := 0) (q0 := 0) rfl rfl, PcM.ok hP hD hK hE hS hFc⟩ rfl rfl hl.1 rfl (lv_room (Nat.le_of_ble_eq_true rfl)) dX0_readBy_14 ⟨Nat.le_refl _, Nat.le_refl _⟩) hP hD hS hA [0, 1, 2, 3, 4] rfl (fun H locs hP hS => ?_)
        refine lv_if_eq (tgt := 36) hx hb dX0_readBy_17 (by decide) (fun c3 => ?_) (fun c3 => ?_)
        · replace hf := ob_pos c3 hf
          exact blk36 _ _ _ hf _ _ hP hD hS _ (lv_sub hl [0, 1, 2, 3] rfl)
        · replace hf := ob_neg c3 hf
          refine lv_aload_n hx hb dX0_readBy_20 rfl (lv_at hl 0 rfl) ?_
          refine va_get (D := G.1) (ci := 0) (v := .ref a0.2.2.2.2) (C := RX0) (T := TX0) (N := 5) hx hb hts hinX0 hown hK hP 0 rfl rfl 3 (by decide) lk1 (fun _ h9 => h9) rfl dX0_readBy_21 ?_
          refine lv_iload_n hx hb dX0_readBy_24 rfl (lv_at hl 3 rfl) ?_
          obtain ⟨hg4, hf⟩ := ob_guard hf
          refine va_iald hx hb hK hP 4 0 rfl rfl hg4 dX0_readBy_25 ?_
          refine lv_iload_n hx hb dX0_readBy_26 rfl (lv_at hl 1 rfl) ?_
          refine lv_icmp_ne (tgt := 36) hx hb dX0_readBy_27 (by decide) (fun c5 => ?_) (fun c5 => ?_)
          · replace hf := ob_neg c5 hf
            exact blk36 _ _ _ hf _ _ hP hD hS _ (lv_sub hl [0, 1, 2, 3] rfl)
          · replace hf := ob_pos c5 hf
            refine lv_iload_n hx hb dX0_readBy_30 rfl (lv_at hl 2 rfl) ?_
            refine lv_iconst (v := 1) hx hb dX0_readBy_31 (by decide) ?_
            refine lv_iload_n hx hb dX0_readBy_32 rfl (lv_at hl 3 rfl) ?_
            refine lv_ishl hx hb dX0_readBy_33 ?_
            refine lv_ior hx hb dX0_readBy_34 ?_
            refine lv_istore_n (lv' := [(2, .int (v2 ||| (1 <<< (v3 &&& 31)))), (0, .ref a0.1), (1, .int v1), (3, .int v3)]) hx hb dX0_readBy_35 rfl hl (by decide) rfl (fun ls hl => ?_)
            exact blk36 _ _ _ hf _ _ hP hD hS _ (lv_sub hl [1, 2, 0, 3] rfl)
  have go : ∀ (H : Heap) (locs : List Loc), va_P G.1 vwCl (ce_X0 G.2.1 a0 S0) H → va_D A (ce_X0 G.2.1 a0 S0) → va_S A s.heap H locs → ∀ (ls : Array Slot), lv_has ls 4 [(0, .ref a0.1), (1, .int p1)] → W p l e (headSpec wsX0_readBy rm_X0_readBy).room s m args below meth c H locs 0 0 Q (F0 m 0 ls []) := by
    intro H locs hP hD hS ls hl
    refine lv_iconst (v := 0) hx hb dX0_readBy_0 (by decide) ?_
    refine lv_istore_n (lv' := [(2, .int 0), (0, .ref a0.1), (1, .int p1)]) hx hb dX0_readBy_1 rfl hl (by decide) rfl (fun ls hl => ?_)
    refine lv_iconst (v := 0) hx hb dX0_readBy_2 (by decide) ?_
    refine lv_istore_n (lv' := [(3, .int 0), (2, .int 0), (0, .ref a0.1), (1, .int p1)]) hx hb dX0_readBy_3 rfl hl (by decide) rfl (fun ls hl => ?_)
    exact blk4 4096 _ _ _ hf _ _ hP hD hS _ (lv_sub hl [2, 3, 1, 0] rfl)
  exact go _ _ hP hD hS _ hl
abbrev rm_X0_cannotBothBe : Room := { frames := 2, cells := 0, slots := 0, locals := 45 }
set_option maxHeartbeats 4000000 in
set_option maxRecDepth 100000 in
theorem c_X0_cannotBothBe (l : Launch) (G : zG) (a0 : AT_X0) (sz : Nat) (S0 : ST_X0) (p1 : Int32) (p2 : Int32) (out : Int32) (hf : f_X0_cannotBothBe S0 p1 p2 = some out) : Met l yX0_cannotBothBe wsX0_cannotBothBe rm_X0_cannotBothBe (PcM G (ce_X0 G.2.1 a0 S0) [.ref a0.1, .int p1, .int p2] sz) (QRo G (ce_X0 G.2.1 a0 S0) out (va_A (ce_X0 G.2.1 a0 S0) sz)) 0 0 (va_A (ce_X0 G.2.1 a0 S0) sz) := by
  rw [f_X0_cannotBothBe] at hf
  refine Met.ofW (cc := cX0_cannotBothBe) (maxL := 3) (ret := (some .boolean)) (by decide) rfl ?_
  intro p e s m args below meth c s₁ B hml hv
  obtain ⟨hargs, hsz, hP, hK, hD0, hE⟩ := hv
  have hx := B.exec
  have hb := B.bytes
  have hr := B.returns
  have hts := atoms_spec (ws := wsX0_cannotBothBe) B.pre
  have hown : s.vm.findClass RX0 = some m.cls := findClass_of_methodNamed B.named
  have hlocks := B.notSynchronized
  subst hsz
  have hD := hD0.self (sz := s.heap.size)
  generalize hAe : va_A (ce_X0 G.2.1 a0 S0) s.heap.size = A at hD hE ⊢
  have hA : ∀ q : Nat, s.heap.size ≤ q → A q := fun q h => by rw [← hAe]; exact Or.inr h
  have hS : va_S A s.heap s.heap [] := va_S.rf
  have hl := lv_entry ([.ref a0.1, .int p1, .int p2]) (n := 3) (Nat.le_of_ble_eq_true rfl)
  have hent : entryFrame m args 3 = F0 m 0 ((lg_sl ([.ref a0.1, .int p1, .int p2]) ++ List.replicate (3 - (lg_sl ([.ref a0.1, .int p1, .int p2])).length) Slot.unset).toArray) [] := by rw [hargs, lg_entry_eq]
  rw [hent]
  clear hent
  generalize (lg_sl ([.ref a0.1, .int p1, .int p2]) ++ List.replicate (3 - (lg_sl ([.ref a0.1, .int p1, .int p2])).length) Slot.unset).toArray = ls at hl ⊢
  have hl : lv_has ls 3 [(0, .ref a0.1), (1, .int p1), (2, .int p2)] := hl
  have lk0 := hts (Cond.fieldLink RX0 18 "EnginesOnList$Book" "numbers" "[I") (List.mem_of_getElem? (i := 1) rfl)
  have lk1 := hts (Cond.fieldLink RX0 9 "EnginesOnList$Book" "days" "[I") (List.mem_of_getElem? (i := 2) rfl)
  have lk2 := hts (Cond.fieldLink RX0 15 "EnginesOnList$Book" "places" "[I") (List.mem_of_getElem? (i := 3) rfl)
  have hinX0 : ∀ w ∈ wsX00, w ∈ wsX0_cannotBothBe := by decide +kernel
  have fin : ∀ (pc : Nat) (v : Int32) (H : Heap) (locs : List Loc) (ls : Array Slot), some v = some out → narrow .boolean (.int v) = .int v → va_P G.1 vwCl (ce_X0 G.2.1 a0 S0) H → va_D A (ce_X0 G.2.1 a0 S0) → va_S A s.heap H locs → decode cX0_cannotBothBe pc = .ok (.ireturn, 1) → W p l e (headSpec wsX0_cannotBothBe rm_X0_cannotBothBe).room s m args below meth c H locs 0 0 (MQ below (QRo G (ce_X0 G.2.1 a0 S0) out A) args s 0 0 A) (F0 m pc ls [.int v]) := fun pc v H locs ls ho hn hP hD hS hd => W.zret (v := v) hx hb hr hn (fun t ht hW => ⟨⟨v, (), rfl, Option.some.inj ho, by first | (rw [ht]; exact hP) | (dsimp only; rw [ht]; exact hP)⟩, hS.F ht⟩) hS.2.2 hd
  generalize MQ below (QRo G (ce_X0 G.2.1 a0 S0) out A) args s 0 0 A = Q at fin ⊢
  have blk65 : f_X0_cannotBothBe_b65 S0 = some out → ∀ (H : Heap) (locs : List Loc), va_P G.1 vwCl (ce_X0 G.2.1 a0 S0) H → va_D A (ce_X0 G.2.1 a0 S0) → va_S A s.heap H locs → ∀ (ls : Array Slot), lv_has ls 3 [] → W p l e (headSpec wsX0_cannotBothBe rm_X0_cannotBothBe).room s m args below meth c H locs 0 0 Q (F0 m 65 ls []) := by
    intro hf H locs hP hD hS ls hl
    rw [f_X0_cannotBothBe_b65] at hf
    refine lv_iconst (v := 0) hx hb dX0_cannotBothBe_65 (by decide) ?_
    exact fin _ _ _ _ _ hf rfl hP hD hS dX0_cannotBothBe_66
  have go : ∀ (H : Heap) (locs : List Loc), va_P G.1 vwCl (ce_X0 G.2.1 a0 S0) H → va_D A (ce_X0 G.2.1 a0 S0) → va_S A s.heap H locs → ∀ (ls : Array Slot), lv_has ls 3 [(0, .ref a0.1), (1, .int p1), (2, .int p2)] → W p l e (headSpec wsX0_cannotBothBe rm_X0_cannotBothBe).room s m args below meth c H locs 0 0 Q (F0 m 0 ls []) := by
    intro H locs hP hD hS ls hl
    refine lv_aload_n hx hb dX0_cannotBothBe_0 rfl (lv_at hl 0 rfl) ?_
    refine lv_iload_n hx hb dX0_cannotBothBe_1 rfl (lv_at hl 1 rfl) ?_
    obtain ⟨r1, hr1, hf⟩ := ob_bind hf
    have hFc := va_free (wc := ce_X0 G.2.1 a0 S0) hD hS hA [0, 1, 2, 3, 4] rfl
    refine zc_ro (va_runV (As := [.int p1]) (rest := []) ⟨hx, hb, hml, hown, hts⟩ (c_X0_holds l G a0 H.size S0 p1 _ hr1) (cwV 1 hts gX0_cannotBothBe_X0_holds rfl rfl rfl (by decide +kernel) ⟨Nat.le_of_ble_eq_true rfl, Nat.le_of_ble_eq_true rfl⟩) ⟨PcM.blind, va_recv hK hP (ci := 0) (q0 := 0) rfl rfl, PcM.ok hP hD hK hE hS hFc⟩ rfl rfl hl.1 rfl (lv_room (Nat.le_of_ble_eq_true rfl)) dX0_cannotBothBe_2 ⟨Nat.le_refl _, Nat.le_refl _⟩) hP hD hS hA [0, 1, 2, 3, 4] rfl (fun H locs hP hS => ?_)
    refine lv_if_eq (tgt := 65) hx hb dX0_cannotBothBe_5 (by decide) (fun c2 => ?_) (fun c2 => ?_)
    · replace hf := ob_pos c2 hf
      exact blk65  hf _ _ hP hD hS _ (lv_sub hl [] rfl)
    · replace hf := ob_neg c2 hf
      refine lv_aload_n hx hb dX0_cannotBothBe_8 rfl (lv_at hl 0 rfl) ?_
      refine lv_iload_n hx hb dX0_cannotBothBe_9 rfl (lv_at hl 2 rfl) ?_
      obtain ⟨r3, hr3, hf⟩ := ob_bind hf
      have hFc := va_free (wc := ce_X0 G.2.1 a0 S0) hD hS hA [0, 1, 2, 3, 4] rfl
      refine zc_ro (va_runV (As := [.int p2]) (rest := []) ⟨hx, hb, hml, hown, hts⟩ (c_X0_holds l G a0 H.size S0 p2 _ hr3) (cwV 1 hts gX0_cannotBothBe_X0_holds rfl rfl rfl (by decide +kernel) ⟨Nat.le_of_ble_eq_true rfl, Nat.le_of_ble_eq_true rfl⟩) ⟨PcM.blind, va_recv hK hP (ci := 0) (q0 := 0) rfl rfl, PcM.ok hP hD hK hE hS hFc⟩ rfl rfl hl.1 rfl (lv_room (Nat.le_of_ble_eq_true rfl)) dX0_cannotBothBe_10 ⟨Nat.le_refl _, Nat.le_refl _⟩) hP hD hS hA [0, 1, 2, 3, 4] rfl (fun H locs hP hS => ?_)
      refine lv_if_eq (tgt := 65) hx hb dX0_cannotBothBe_13 (by decide) (fun c4 => ?_) (fun c4 => ?_)
      · replace hf := ob_pos c4 hf
        exact blk65  hf _ _ hP hD hS _ (lv_sub hl [] rfl)
      · replace hf := ob_neg c4 hf
        refine lv_aload_n hx hb dX0_cannotBothBe_16 rfl (lv_at hl 0 rfl) ?_
        refine va_get (D := G.1) (ci := 0) (v := .ref a0.2.2.2.1) (C := RX0) (T := TX0) (N := 5) hx hb hts hinX0 hown hK hP 0 rfl rfl 2 (by decide) lk0 (fun _ h9 => h9) rfl dX0_cannotBothBe_17 ?_
        refine lv_iload_n hx hb dX0_cannotBothBe_20 rfl (lv_at hl 1 rfl) ?_
        obtain ⟨hg5, hf⟩ := ob_guard hf
        refine va_iald hx hb hK hP 3 0 rfl rfl hg5 dX0_cannotBothBe_21 ?_
        refine lv_aload_n hx hb dX0_cannotBothBe_22 rfl (lv_at hl 0 rfl) ?_
        refine va_get (D := G.1) (ci := 0) (v := .ref a0.2.2.2.1) (C := RX0) (T := TX0) (N := 5) hx hb hts hinX0 hown hK hP 0 rfl rfl 2 (by decide) lk0 (fun _ h9 => h9) rfl dX0_cannotBothBe_23 ?_
        refine lv_iload_n hx hb dX0_cannotBothBe_26 rfl (lv_at hl 2 rfl) ?_
        obtain ⟨hg6, hf⟩ := ob_guard hf
        refine va_iald hx hb hK hP 3 0 rfl rfl hg6 dX0_cannotBothBe_27 ?_
        refine lv_icmp_ne (tgt := 65) hx hb dX0_cannotBothBe_28 (by decide) (fun c7 => ?_) (fun c7 => ?_)
        · replace hf := ob_neg c7 hf
          exact blk65  hf _ _ hP hD hS _ (lv_sub hl [] rfl)
        · replace hf := ob_pos c7 hf
          refine lv_aload_n hx hb dX0_cannotBothBe_31 rfl (lv_at hl 0 rfl) ?_
          refine va_get (D := G.1) (ci := 0) (v := .ref a0.2.1) (C := RX0) (T := TX0) (N := 5) hx hb hts hinX0 hown hK hP 0 rfl rfl 0 (by decide) lk1 (fun _ h9 => h9) rfl dX0_cannotBothBe_32 ?_
          refine lv_iload_n hx hb dX0_cannotBothBe_35 rfl (lv_at hl 1 rfl) ?_
          obtain ⟨hg8, hf⟩ := ob_guard hf
          refine va_iald hx hb hK hP 1 0 rfl rfl hg8 dX0_cannotBothBe_36 ?_
          refine lv_aload_n hx hb dX0_cannotBothBe_37 rfl (lv_at hl 0 rfl) ?_
          refine va_get (D := G.1) (ci := 0) (v := .ref a0.2.1) (C := RX0) (T := TX0) (N := 5) hx hb hts hinX0 hown hK hP 0 rfl rfl 0 (by decide) lk1 (fun _ h9 => h9) rfl dX0_cannotBothBe_38 ?_
          refine lv_iload_n hx hb dX0_cannotBothBe_41 rfl (lv_at hl 2 rfl) ?_
          obtain ⟨hg9, hf⟩ := ob_guard hf
          refine va_iald hx hb hK hP 1 0 rfl rfl hg9 dX0_cannotBothBe_42 ?_
          refine lv_icmp_ne (tgt := 65) hx hb dX0_cannotBothBe_43 (by decide) (fun c10 => ?_) (fun c10 => ?_)
          · replace hf := ob_neg c10 hf
            exact blk65  hf _ _ hP hD hS _ (lv_sub hl [] rfl)
          · replace hf := ob_pos c10 hf
            refine lv_aload_n hx hb dX0_cannotBothBe_46 rfl (lv_at hl 0 rfl) ?_
            refine va_get (D := G.1) (ci := 0) (v := .ref a0.2.2.1) (C := RX0) (T := TX0) (N := 5) hx hb hts hinX0 hown hK hP 0 rfl rfl 1 (by decide) lk2 (fun _ h9 => h9) rfl dX0_cannotBothBe_47 ?_
            refine lv_iload_n hx hb dX0_cannotBothBe_50 rfl (lv_at hl 1 rfl) ?_
            obtain ⟨hg11, hf⟩ := ob_guard hf
            refine va_iald hx hb hK hP 2 0 rfl rfl hg11 dX0_cannotBothBe_51 ?_
            refine lv_aload_n hx hb dX0_cannotBothBe_52 rfl (lv_at hl 0 rfl) ?_
            refine va_get (D := G.1) (ci := 0) (v := .ref a0.2.2.1) (C := RX0) (T := TX0) (N := 5) hx hb hts hinX0 hown hK hP 0 rfl rfl 1 (by decide) lk2 (fun _ h9 => h9) rfl dX0_cannotBothBe_53 ?_
            refine lv_iload_n hx hb dX0_cannotBothBe_56 rfl (lv_at hl 2 rfl) ?_
            obtain ⟨hg12, hf⟩ := ob_guard hf
            refine va_iald hx hb hK hP 2 0 rfl rfl hg12 dX0_cannotBothBe_57 ?_
            refine lv_icmp_eq (tgt := 65) hx hb dX0_cannotBothBe_58 (by decide) (fun c13 => ?_) (fun c13 => ?_)
            · replace hf := ob_pos c13 hf
              exact blk65  hf _ _ hP hD hS _ (lv_sub hl [] rfl)
            · replace hf := ob_neg c13 hf
              refine lv_iconst (v := 1) hx hb dX0_cannotBothBe_61 (by decide) ?_
              refine lv_goto (tgt := 66) hx hb dX0_cannotBothBe_62 (by decide) ?_
              exact fin _ _ _ _ _ hf rfl hP hD hS dX0_cannotBothBe_66
  exact go _ _ hP hD hS _ hl
abbrev rm_X0_number : Room := { frames := 2, cells := 0, slots := 0, locals := 45 }
set_option maxHeartbeats 4000000 in
set_option maxRecDepth 100000 in
theorem c_X0_number (l : Launch) (G : zG) (a0 : AT_X0) (sz : Nat) (S0 : ST_X0) (p1 : Int32) (out : Int32) (hf : f_X0_number S0 p1 = some out) : Met l yX0_number wsX0_number rm_X0_number (PcM G (ce_X0 G.2.1 a0 S0) [.ref a0.1, .int p1] sz) (QRo G (ce_X0 G.2.1 a0 S0) out (va_A (ce_X0 G.2.1 a0 S0) sz)) 0 0 (va_A (ce_X0 G.2.1 a0 S0) sz) := by
  rw [f_X0_number] at hf
  refine Met.ofW (cc := cX0_number) (maxL := 2) (ret := (some .int)) (by decide) rfl ?_
  intro p e s m args below meth c s₁ B hml hv
  obtain ⟨hargs, hsz, hP, hK, hD0, hE⟩ := hv
  have hx := B.exec
  have hb := B.bytes
  have hr := B.returns
  have hts := atoms_spec (ws := wsX0_number) B.pre
  have hown : s.vm.findClass RX0 = some m.cls := findClass_of_methodNamed B.named
  have hlocks := B.notSynchronized
  subst hsz
  have hD := hD0.self (sz := s.heap.size)
  generalize hAe : va_A (ce_X0 G.2.1 a0 S0) s.heap.size = A at hD hE ⊢
  have hA : ∀ q : Nat, s.heap.size ≤ q → A q := fun q h => by rw [← hAe]; exact Or.inr h
  have hS : va_S A s.heap s.heap [] := va_S.rf
  have hl := lv_entry ([.ref a0.1, .int p1]) (n := 2) (Nat.le_of_ble_eq_true rfl)
  have hent : entryFrame m args 2 = F0 m 0 ((lg_sl ([.ref a0.1, .int p1]) ++ List.replicate (2 - (lg_sl ([.ref a0.1, .int p1])).length) Slot.unset).toArray) [] := by rw [hargs, lg_entry_eq]
  rw [hent]
  clear hent
  generalize (lg_sl ([.ref a0.1, .int p1]) ++ List.replicate (2 - (lg_sl ([.ref a0.1, .int p1])).length) Slot.unset).toArray = ls at hl ⊢
  have hl : lv_has ls 2 [(0, .ref a0.1), (1, .int p1)] := hl
  have lk0 := hts (Cond.fieldLink RX0 18 "EnginesOnList$Book" "numbers" "[I") (List.mem_of_getElem? (i := 1) rfl)
  have hinX0 : ∀ w ∈ wsX00, w ∈ wsX0_number := by decide +kernel
  have fin : ∀ (pc : Nat) (v : Int32) (H : Heap) (locs : List Loc) (ls : Array Slot), some v = some out → va_P G.1 vwCl (ce_X0 G.2.1 a0 S0) H → va_D A (ce_X0 G.2.1 a0 S0) → va_S A s.heap H locs → decode cX0_number pc = .ok (.ireturn, 1) → W p l e (headSpec wsX0_number rm_X0_number).room s m args below meth c H locs 0 0 (MQ below (QRo G (ce_X0 G.2.1 a0 S0) out A) args s 0 0 A) (F0 m pc ls [.int v]) := fun pc v H locs ls ho hP hD hS hd => W.iret (v := v) hx hb hr (fun t ht hW => ⟨⟨v, (), rfl, Option.some.inj ho, by first | (rw [ht]; exact hP) | (dsimp only; rw [ht]; exact hP)⟩, hS.F ht⟩) hS.2.2 hd
  generalize MQ below (QRo G (ce_X0 G.2.1 a0 S0) out A) args s 0 0 A = Q at fin ⊢
  have go : ∀ (H : Heap) (locs : List Loc), va_P G.1 vwCl (ce_X0 G.2.1 a0 S0) H → va_D A (ce_X0 G.2.1 a0 S0) → va_S A s.heap H locs → ∀ (ls : Array Slot), lv_has ls 2 [(0, .ref a0.1), (1, .int p1)] → W p l e (headSpec wsX0_number rm_X0_number).room s m args below meth c H locs 0 0 Q (F0 m 0 ls []) := by
    intro H locs hP hD hS ls hl
    refine lv_aload_n hx hb dX0_number_0 rfl (lv_at hl 0 rfl) ?_
    refine lv_iload_n hx hb dX0_number_1 rfl (lv_at hl 1 rfl) ?_
    obtain ⟨r1, hr1, hf⟩ := ob_bind hf
    have hFc := va_free (wc := ce_X0 G.2.1 a0 S0) hD hS hA [0, 1, 2, 3, 4] rfl
    refine zc_ro (va_runV (As := [.int p1]) (rest := []) ⟨hx, hb, hml, hown, hts⟩ (c_X0_holds l G a0 H.size S0 p1 _ hr1) (cwV 1 hts gX0_number_X0_holds rfl rfl rfl (by decide +kernel) ⟨Nat.le_of_ble_eq_true rfl, Nat.le_of_ble_eq_true rfl⟩) ⟨PcM.blind, va_recv hK hP (ci := 0) (q0 := 0) rfl rfl, PcM.ok hP hD hK hE hS hFc⟩ rfl rfl hl.1 rfl (lv_room (Nat.le_of_ble_eq_true rfl)) dX0_number_2 ⟨Nat.le_refl _, Nat.le_refl _⟩) hP hD hS hA [0, 1, 2, 3, 4] rfl (fun H locs hP hS => ?_)
    refine lv_if_eq (tgt := 17) hx hb dX0_number_5 (by decide) (fun c2 => ?_) (fun c2 => ?_)
    · replace hf := ob_pos c2 hf
      refine lv_iconst (v := 0) hx hb dX0_number_17 (by decide) ?_
      exact fin _ _ _ _ _ hf hP hD hS dX0_number_18
    · replace hf := ob_neg c2 hf
      refine lv_aload_n hx hb dX0_number_8 rfl (lv_at hl 0 rfl) ?_
      refine va_get (D := G.1) (ci := 0) (v := .ref a0.2.2.2.1) (C := RX0) (T := TX0) (N := 5) hx hb hts hinX0 hown hK hP 0 rfl rfl 2 (by decide) lk0 (fun _ h9 => h9) rfl dX0_number_9 ?_
      refine lv_iload_n hx hb dX0_number_12 rfl (lv_at hl 1 rfl) ?_
      obtain ⟨hg3, hf⟩ := ob_guard hf
      refine va_iald hx hb hK hP 3 0 rfl rfl hg3 dX0_number_13 ?_
      refine lv_goto (tgt := 18) hx hb dX0_number_14 (by decide) ?_
      exact fin _ _ _ _ _ hf hP hD hS dX0_number_18
  exact go _ _ hP hD hS _ hl
abbrev rm_X0_greatestNumber : Room := { frames := 3, cells := 0, slots := 0, locals := 66 }
set_option maxHeartbeats 4000000 in
set_option maxRecDepth 100000 in
theorem c_X0_greatestNumber (l : Launch) (G : zG) (a0 : AT_X0) (sz : Nat) (S0 : ST_X0) (out : Int32) (hf : f_X0_greatestNumber S0 = some out) : Met l yX0_greatestNumber wsX0_greatestNumber rm_X0_greatestNumber (PcM G (ce_X0 G.2.1 a0 S0) [.ref a0.1] sz) (QRo G (ce_X0 G.2.1 a0 S0) out (va_A (ce_X0 G.2.1 a0 S0) sz)) 0 0 (va_A (ce_X0 G.2.1 a0 S0) sz) := by
  rw [f_X0_greatestNumber] at hf
  refine Met.ofW (cc := cX0_greatestNumber) (maxL := 3) (ret := (some .int)) (by decide) rfl ?_
  intro p e s m args below meth c s₁ B hml hv
  obtain ⟨hargs, hsz, hP, hK, hD0, hE⟩ := hv
  have hx := B.exec
  have hb := B.bytes
  have hr := B.returns
  have hts := atoms_spec (ws := wsX0_greatestNumber) B.pre
  have hown : s.vm.findClass RX0 = some m.cls := findClass_of_methodNamed B.named
  have hlocks := B.notSynchronized
  subst hsz
  have hD := hD0.self (sz := s.heap.size)
  generalize hAe : va_A (ce_X0 G.2.1 a0 S0) s.heap.size = A at hD hE ⊢
  have hA : ∀ q : Nat, s.heap.size ≤ q → A q := fun q h => by rw [← hAe]; exact Or.inr h
  have hS : va_S A s.heap s.heap [] := va_S.rf
  have hl := lv_entry ([.ref a0.1]) (n := 3) (Nat.le_of_ble_eq_true rfl)
  have hent : entryFrame m args 3 = F0 m 0 ((lg_sl ([.ref a0.1]) ++ List.replicate (3 - (lg_sl ([.ref a0.1])).length) Slot.unset).toArray) [] := by rw [hargs, lg_entry_eq]
  rw [hent]
  clear hent
  generalize (lg_sl ([.ref a0.1]) ++ List.replicate (3 - (lg_sl ([.ref a0.1])).length) Slot.unset).toArray = ls at hl ⊢
  have hl : lv_has ls 3 [(0, .ref a0.1)] := hl
  have lk0 := hts (Cond.fieldLink RX0 30 "EnginesOnList$Book" "size" "I") (List.mem_of_getElem? (i := 1) rfl)
  have lk1 := hts (Cond.methodLink RX0 42 Lib.Math.max.name) (List.mem_of_getElem? (i := 2) rfl)
  have lk2 := hts (Cond.static Lib.Math.max.name) (List.mem_of_getElem? (i := 3) rfl)
  have lk3 := hts (Cond.initialized "java/lang/Math") (List.mem_of_getElem? (i := 4) rfl)
  have lk4 := hts (Cond.code Lib.Math.max.name Lib.Math.max.code 2 (some .int)) (List.mem_of_getElem? (i := 5) rfl)
  have hinX0 : ∀ w ∈ wsX00, w ∈ wsX0_greatestNumber := by decide +kernel
  have fin : ∀ (pc : Nat) (v : Int32) (H : Heap) (locs : List Loc) (ls : Array Slot), some v = some out → va_P G.1 vwCl (ce_X0 G.2.1 a0 S0) H → va_D A (ce_X0 G.2.1 a0 S0) → va_S A s.heap H locs → decode cX0_greatestNumber pc = .ok (.ireturn, 1) → W p l e (headSpec wsX0_greatestNumber rm_X0_greatestNumber).room s m args below meth c H locs 0 0 (MQ below (QRo G (ce_X0 G.2.1 a0 S0) out A) args s 0 0 A) (F0 m pc ls [.int v]) := fun pc v H locs ls ho hP hD hS hd => W.iret (v := v) hx hb hr (fun t ht hW => ⟨⟨v, (), rfl, Option.some.inj ho, by first | (rw [ht]; exact hP) | (dsimp only; rw [ht]; exact hP)⟩, hS.F ht⟩) hS.2.2 hd
  generalize MQ below (QRo G (ce_X0 G.2.1 a0 S0) out A) args s 0 0 A = Q at fin ⊢
  have blk4 : ∀ (fu4 : Nat), ∀ (v1 : Int32) (v2 : Int32), f_X0_greatestNumber_b4 S0 fu4 v1 v2 = some out → ∀ (H : Heap) (locs : List Loc), va_P G.1 vwCl (ce_X0 G.2.1 a0 S0) H → va_D A (ce_X0 G.2.1 a0 S0) → va_S A s.heap H locs → ∀ (ls : Array Slot), lv_has ls 3 [(0, .ref a0.1), (1, .int v1), (2, .int v2)] → W p l e (headSpec wsX0_greatestNumber rm_X0_greatestNumber).room s m args below meth c H locs 0 0 Q (F0 m 4 ls []) := by
    intro fu4
    induction fu4 with
    | zero => intro v1 v2 hf; exact ob_none hf
    | succ fu4 ih4 =>
      intro v1 v2 hf H locs hP hD hS ls hl
      rw [f_X0_greatestNumber_b4] at hf
      refine lv_iload_n hx hb dX0_greatestNumber_4 rfl (lv_at hl 2 rfl) ?_
      refine lv_aload_n hx hb dX0_greatestNumber_5 rfl (lv_at hl 0 rfl) ?_
      refine va_get (D := G.1) (ci := 0) (v := .int S0.2.2.2.2) (C := RX0) (T := TX0) (N := 5) hx hb hts hinX0 hown hK hP 0 rfl rfl 4 (by decide) lk0 (fun _ h9 => h9) rfl dX0_greatestNumber_6 ?_
      refine lv_icmp_ge (tgt := 28) hx hb dX0_greatestNumber_9 (by decide) (fun c1 => ?_) (fun c1 => ?_)
      · replace hf := ob_pos c1 hf
        refine lv_iload_n hx hb dX0_greatestNumber_28 rfl (lv_at hl 1 rfl) ?_
        exact fin _ _ _ _ _ hf hP hD hS dX0_greatestNumber_29
      · replace hf := ob_neg c1 hf
        refine lv_iload_n hx hb dX0_greatestNumber_12 rfl (lv_at hl 1 rfl) ?_
        refine lv_aload_n hx hb dX0_greatestNumber_13 rfl (lv_at hl 0 rfl) ?_
        refine lv_iload_n hx hb dX0_greatestNumber_14 rfl (lv_at hl 2 rfl) ?_
        obtain ⟨r2, hr2, hf⟩ := ob_bind hf
        have hFc := va_free (wc := ce_X0 G.2.1 a0 S0) hD hS hA [0, 1, 2, 3, 4] rfl
        refine zc_ro (va_runV (As := [.int v2]) (rest := [.int v1]) ⟨hx, hb, hml, hown, hts⟩ (c_X0_number l G a0 H.size S0 v2 _ hr2) (cwV 1 hts gX0_greatestNumber_X0_number rfl rfl rfl (by decide +kernel) ⟨Nat.le_of_ble_eq_true rfl, Nat.le_of_ble_eq_true rfl⟩) ⟨PcM.blind, va_recv hK hP (ci := 0) (q0 := 0) rfl rfl, PcM.ok hP hD hK hE hS hFc⟩ rfl rfl hl.1 rfl (lv_room (Nat.le_of_ble_eq_true rfl)) dX0_greatestNumber_15 ⟨Nat.le_refl _, Nat.le_refl _⟩) hP hD hS hA [0, 1, 2, 3, 4] rfl (fun H locs hP hS => ?_)
        refine va_mmax hx hb (hml.trans hl.1.symm) hown lk1 lk2 lk3 lk4 (Nat.le_of_ble_eq_true rfl) (Nat.le_of_ble_eq_true rfl) (Nat.zero_le _) (Nat.zero_le _) dX0_greatestNumber_18 ?_
        refine lv_istore_n (lv' := [(1, .int (if v1 < r2 then r2 else v1)), (0, .ref a0.1), (2, .int v2)]) hx hb dX0_greatestNumber_21 rfl hl (by decide) rfl (fun ls hl => ?_)
        refine lv_iinc (v := v2 + 1) (lv' := [(2, .int (v2 + 1)), (1, .int (if v1 < r2 then r2 else v1)), (0, .ref a0.1)]) hx hb dX0_greatestNumber_22 hl (k := 2) rfl rfl (by decide) rfl (fun ls hl => ?_)
        refine lv_goto (tgt := 4) hx hb dX0_greatestNumber_25 (by decide) ?_
        exact ih4 _ _ hf _ _ hP hD hS _ (lv_sub hl [2, 1, 0] rfl)
  have go : ∀ (H : Heap) (locs : List Loc), va_P G.1 vwCl (ce_X0 G.2.1 a0 S0) H → va_D A (ce_X0 G.2.1 a0 S0) → va_S A s.heap H locs → ∀ (ls : Array Slot), lv_has ls 3 [(0, .ref a0.1)] → W p l e (headSpec wsX0_greatestNumber rm_X0_greatestNumber).room s m args below meth c H locs 0 0 Q (F0 m 0 ls []) := by
    intro H locs hP hD hS ls hl
    refine lv_iconst (v := 0) hx hb dX0_greatestNumber_0 (by decide) ?_
    refine lv_istore_n (lv' := [(1, .int 0), (0, .ref a0.1)]) hx hb dX0_greatestNumber_1 rfl hl (by decide) rfl (fun ls hl => ?_)
    refine lv_iconst (v := 0) hx hb dX0_greatestNumber_2 (by decide) ?_
    refine lv_istore_n (lv' := [(2, .int 0), (1, .int 0), (0, .ref a0.1)]) hx hb dX0_greatestNumber_3 rfl hl (by decide) rfl (fun ls hl => ?_)
    exact blk4 4096 _ _ hf _ _ hP hD hS _ (lv_sub hl [2, 1, 0] rfl)
  exact go _ _ hP hD hS _ hl
abbrev rm_X0_isFirstOfItsNumber : Room := { frames := 3, cells := 0, slots := 0, locals := 66 }
set_option maxHeartbeats 4000000 in
set_option maxRecDepth 100000 in
theorem c_X0_isFirstOfItsNumber (l : Launch) (G : zG) (a0 : AT_X0) (sz : Nat) (S0 : ST_X0) (p1 : Int32) (out : Int32) (hf : f_X0_isFirstOfItsNumber S0 p1 = some out) : Met l yX0_isFirstOfItsNumber wsX0_isFirstOfItsNumber rm_X0_isFirstOfItsNumber (PcM G (ce_X0 G.2.1 a0 S0) [.ref a0.1, .int p1] sz) (QRo G (ce_X0 G.2.1 a0 S0) out (va_A (ce_X0 G.2.1 a0 S0) sz)) 0 0 (va_A (ce_X0 G.2.1 a0 S0) sz) := by
  rw [f_X0_isFirstOfItsNumber] at hf
  refine Met.ofW (cc := cX0_isFirstOfItsNumber) (maxL := 3) (ret := (some .boolean)) (by decide) rfl ?_
  intro p e s m args below meth c s₁ B hml hv
  obtain ⟨hargs, hsz, hP, hK, hD0, hE⟩ := hv
  have hx := B.exec
  have hb := B.bytes
  have hr := B.returns
  have hts := atoms_spec (ws := wsX0_isFirstOfItsNumber) B.pre
  have hown : s.vm.findClass RX0 = some m.cls := findClass_of_methodNamed B.named
  have hlocks := B.notSynchronized
  subst hsz
  have hD := hD0.self (sz := s.heap.size)
  generalize hAe : va_A (ce_X0 G.2.1 a0 S0) s.heap.size = A at hD hE ⊢
  have hA : ∀ q : Nat, s.heap.size ≤ q → A q := fun q h => by rw [← hAe]; exact Or.inr h
  have hS : va_S A s.heap s.heap [] := va_S.rf
  have hl := lv_entry ([.ref a0.1, .int p1]) (n := 3) (Nat.le_of_ble_eq_true rfl)
  have hent : entryFrame m args 3 = F0 m 0 ((lg_sl ([.ref a0.1, .int p1]) ++ List.replicate (3 - (lg_sl ([.ref a0.1, .int p1])).length) Slot.unset).toArray) [] := by rw [hargs, lg_entry_eq]
  rw [hent]
  clear hent
  generalize (lg_sl ([.ref a0.1, .int p1]) ++ List.replicate (3 - (lg_sl ([.ref a0.1, .int p1])).length) Slot.unset).toArray = ls at hl ⊢
  have hl : lv_has ls 3 [(0, .ref a0.1), (1, .int p1)] := hl
  have fin : ∀ (pc : Nat) (v : Int32) (H : Heap) (locs : List Loc) (ls : Array Slot), some v = some out → narrow .boolean (.int v) = .int v → va_P G.1 vwCl (ce_X0 G.2.1 a0 S0) H → va_D A (ce_X0 G.2.1 a0 S0) → va_S A s.heap H locs → decode cX0_isFirstOfItsNumber pc = .ok (.ireturn, 1) → W p l e (headSpec wsX0_isFirstOfItsNumber rm_X0_isFirstOfItsNumber).room s m args below meth c H locs 0 0 (MQ below (QRo G (ce_X0 G.2.1 a0 S0) out A) args s 0 0 A) (F0 m pc ls [.int v]) := fun pc v H locs ls ho hn hP hD hS hd => W.zret (v := v) hx hb hr hn (fun t ht hW => ⟨⟨v, (), rfl, Option.some.inj ho, by first | (rw [ht]; exact hP) | (dsimp only; rw [ht]; exact hP)⟩, hS.F ht⟩) hS.2.2 hd
  generalize MQ below (QRo G (ce_X0 G.2.1 a0 S0) out A) args s 0 0 A = Q at fin ⊢
  have blk2 : ∀ (fu2 : Nat), ∀ (v1 : Int32) (v2 : Int32), f_X0_isFirstOfItsNumber_b2 S0 fu2 v1 v2 = some out → ∀ (H : Heap) (locs : List Loc), va_P G.1 vwCl (ce_X0 G.2.1 a0 S0) H → va_D A (ce_X0 G.2.1 a0 S0) → va_S A s.heap H locs → ∀ (ls : Array Slot), lv_has ls 3 [(0, .ref a0.1), (1, .int v1), (2, .int v2)] → W p l e (headSpec wsX0_isFirstOfItsNumber rm_X0_isFirstOfItsNumber).room s m args below meth c H locs 0 0 Q (F0 m 2 ls []) := by
    intro fu2
    induction fu2 with
    | zero => intro v1 v2 hf; exact ob_none hf
    | succ fu2 ih2 =>
      intro v1 v2 hf H locs hP hD hS ls hl
      rw [f_X0_isFirstOfItsNumber_b2] at hf
      refine lv_iload_n hx hb dX0_isFirstOfItsNumber_2 rfl (lv_at hl 2 rfl) ?_
      refine lv_iload_n hx hb dX0_isFirstOfItsNumber_3 rfl (lv_at hl 1 rfl) ?_
      refine lv_icmp_ge (tgt := 28) hx hb dX0_isFirstOfItsNumber_4 (by decide) (fun c1 => ?_) (fun c1 => ?_)
      · replace hf := ob_pos c1 hf
        refine lv_iconst (v := 1) hx hb dX0_isFirstOfItsNumber_28 (by decide) ?_
        exact fin _ _ _ _ _ hf rfl hP hD hS dX0_isFirstOfItsNumber_29
      · replace hf := ob_neg c1 hf
        refine lv_aload_n hx hb dX0_isFirstOfItsNumber_7 rfl (lv_at hl 0 rfl) ?_
        refine lv_iload_n hx hb dX0_isFirstOfItsNumber_8 rfl (lv_at hl 2 rfl) ?_
        obtain ⟨r2, hr2, hf⟩ := ob_bind hf
        have hFc := va_free (wc := ce_X0 G.2.1 a0 S0) hD hS hA [0, 1, 2, 3, 4] rfl
        refine zc_ro (va_runV (As := [.int v2]) (rest := []) ⟨hx, hb, hml, hown, hts⟩ (c_X0_number l G a0 H.size S0 v2 _ hr2) (cwV 1 hts gX0_isFirstOfItsNumber_X0_number rfl rfl rfl (by decide +kernel) ⟨Nat.le_of_ble_eq_true rfl, Nat.le_of_ble_eq_true rfl⟩) ⟨PcM.blind, va_recv hK hP (ci := 0) (q0 := 0) rfl rfl, PcM.ok hP hD hK hE hS hFc⟩ rfl rfl hl.1 rfl (lv_room (Nat.le_of_ble_eq_true rfl)) dX0_isFirstOfItsNumber_9 ⟨Nat.le_refl _, Nat.le_refl _⟩) hP hD hS hA [0, 1, 2, 3, 4] rfl (fun H locs hP hS => ?_)
        refine lv_aload_n hx hb dX0_isFirstOfItsNumber_12 rfl (lv_at hl 0 rfl) ?_
        refine lv_iload_n hx hb dX0_isFirstOfItsNumber_13 rfl (lv_at hl 1 rfl) ?_
        obtain ⟨r3, hr3, hf⟩ := ob_bind hf
        have hFc := va_free (wc := ce_X0 G.2.1 a0 S0) hD hS hA [0, 1, 2, 3, 4] rfl
        refine zc_ro (va_runV (As := [.int v1]) (rest := [.int r2]) ⟨hx, hb, hml, hown, hts⟩ (c_X0_number l G a0 H.size S0 v1 _ hr3) (cwV 1 hts gX0_isFirstOfItsNumber_X0_number rfl rfl rfl (by decide +kernel) ⟨Nat.le_of_ble_eq_true rfl, Nat.le_of_ble_eq_true rfl⟩) ⟨PcM.blind, va_recv hK hP (ci := 0) (q0 := 0) rfl rfl, PcM.ok hP hD hK hE hS hFc⟩ rfl rfl hl.1 rfl (lv_room (Nat.le_of_ble_eq_true rfl)) dX0_isFirstOfItsNumber_14 ⟨Nat.le_refl _, Nat.le_refl _⟩) hP hD hS hA [0, 1, 2, 3, 4] rfl (fun H locs hP hS => ?_)
        refine lv_icmp_ne (tgt := 22) hx hb dX0_isFirstOfItsNumber_17 (by decide) (fun c4 => ?_) (fun c4 => ?_)
        · replace hf := ob_neg c4 hf
          refine lv_iinc (v := v2 + 1) (lv' := [(2, .int (v2 + 1)), (0, .ref a0.1), (1, .int v1)]) hx hb dX0_isFirstOfItsNumber_22 hl (k := 2) rfl rfl (by decide) rfl (fun ls hl => ?_)
          refine lv_goto (tgt := 2) hx hb dX0_isFirstOfItsNumber_25 (by decide) ?_
          exact ih2 _ _ hf _ _ hP hD hS _ (lv_sub hl [1, 2, 0] rfl)
        · replace hf := ob_pos c4 hf
          refine lv_iconst (v := 0) hx hb dX0_isFirstOfItsNumber_20 (by decide) ?_
          exact fin _ _ _ _ _ hf rfl hP hD hS dX0_isFirstOfItsNumber_21
  have go : ∀ (H : Heap) (locs : List Loc), va_P G.1 vwCl (ce_X0 G.2.1 a0 S0) H → va_D A (ce_X0 G.2.1 a0 S0) → va_S A s.heap H locs → ∀ (ls : Array Slot), lv_has ls 3 [(0, .ref a0.1), (1, .int p1)] → W p l e (headSpec wsX0_isFirstOfItsNumber rm_X0_isFirstOfItsNumber).room s m args below meth c H locs 0 0 Q (F0 m 0 ls []) := by
    intro H locs hP hD hS ls hl
    refine lv_iconst (v := 0) hx hb dX0_isFirstOfItsNumber_0 (by decide) ?_
    refine lv_istore_n (lv' := [(2, .int 0), (0, .ref a0.1), (1, .int p1)]) hx hb dX0_isFirstOfItsNumber_1 rfl hl (by decide) rfl (fun ls hl => ?_)
    exact blk2 4096 _ _ hf _ _ hP hD hS _ (lv_sub hl [1, 2, 0] rfl)
  exact go _ _ hP hD hS _ hl
abbrev rm_X0_unlikeNumbers : Room := { frames := 4, cells := 0, slots := 0, locals := 88 }
set_option maxHeartbeats 4000000 in
set_option maxRecDepth 100000 in
theorem c_X0_unlikeNumbers (l : Launch) (G : zG) (a0 : AT_X0) (sz : Nat) (S0 : ST_X0) (out : Int32) (hf : f_X0_unlikeNumbers S0 = some out) : Met l yX0_unlikeNumbers wsX0_unlikeNumbers rm_X0_unlikeNumbers (PcM G (ce_X0 G.2.1 a0 S0) [.ref a0.1] sz) (QRo G (ce_X0 G.2.1 a0 S0) out (va_A (ce_X0 G.2.1 a0 S0) sz)) 0 0 (va_A (ce_X0 G.2.1 a0 S0) sz) := by
  rw [f_X0_unlikeNumbers] at hf
  refine Met.ofW (cc := cX0_unlikeNumbers) (maxL := 3) (ret := (some .int)) (by decide) rfl ?_
  intro p e s m args below meth c s₁ B hml hv
  obtain ⟨hargs, hsz, hP, hK, hD0, hE⟩ := hv
  have hx := B.exec
  have hb := B.bytes
  have hr := B.returns
  have hts := atoms_spec (ws := wsX0_unlikeNumbers) B.pre
  have hown : s.vm.findClass RX0 = some m.cls := findClass_of_methodNamed B.named
  have hlocks := B.notSynchronized
  subst hsz
  have hD := hD0.self (sz := s.heap.size)
  generalize hAe : va_A (ce_X0 G.2.1 a0 S0) s.heap.size = A at hD hE ⊢
  have hA : ∀ q : Nat, s.heap.size ≤ q → A q := fun q h => by rw [← hAe]; exact Or.inr h
  have hS : va_S A s.heap s.heap [] := va_S.rf
  have hl := lv_entry ([.ref a0.1]) (n := 3) (Nat.le_of_ble_eq_true rfl)
  have hent : entryFrame m args 3 = F0 m 0 ((lg_sl ([.ref a0.1]) ++ List.replicate (3 - (lg_sl ([.ref a0.1])).length) Slot.unset).toArray) [] := by rw [hargs, lg_entry_eq]
  rw [hent]
  clear hent
  generalize (lg_sl ([.ref a0.1]) ++ List.replicate (3 - (lg_sl ([.ref a0.1])).length) Slot.unset).toArray = ls at hl ⊢
  have hl : lv_has ls 3 [(0, .ref a0.1)] := hl
  have lk0 := hts (Cond.fieldLink RX0 30 "EnginesOnList$Book" "size" "I") (List.mem_of_getElem? (i := 1) rfl)
  have hinX0 : ∀ w ∈ wsX00, w ∈ wsX0_unlikeNumbers := by decide +kernel
  have fin : ∀ (pc : Nat) (v : Int32) (H : Heap) (locs : List Loc) (ls : Array Slot), some v = some out → va_P G.1 vwCl (ce_X0 G.2.1 a0 S0) H → va_D A (ce_X0 G.2.1 a0 S0) → va_S A s.heap H locs → decode cX0_unlikeNumbers pc = .ok (.ireturn, 1) → W p l e (headSpec wsX0_unlikeNumbers rm_X0_unlikeNumbers).room s m args below meth c H locs 0 0 (MQ below (QRo G (ce_X0 G.2.1 a0 S0) out A) args s 0 0 A) (F0 m pc ls [.int v]) := fun pc v H locs ls ho hP hD hS hd => W.iret (v := v) hx hb hr (fun t ht hW => ⟨⟨v, (), rfl, Option.some.inj ho, by first | (rw [ht]; exact hP) | (dsimp only; rw [ht]; exact hP)⟩, hS.F ht⟩) hS.2.2 hd
  generalize MQ below (QRo G (ce_X0 G.2.1 a0 S0) out A) args s 0 0 A = Q at fin ⊢
  have blk4 : ∀ (fu4 : Nat), ∀ (v1 : Int32) (v2 : Int32), f_X0_unlikeNumbers_b4 S0 fu4 v1 v2 = some out → ∀ (H : Heap) (locs : List Loc), va_P G.1 vwCl (ce_X0 G.2.1 a0 S0) H → va_D A (ce_X0 G.2.1 a0 S0) → va_S A s.heap H locs → ∀ (ls : Array Slot), lv_has ls 3 [(0, .ref a0.1), (1, .int v1), (2, .int v2)] → W p l e (headSpec wsX0_unlikeNumbers rm_X0_unlikeNumbers).room s m args below meth c H locs 0 0 Q (F0 m 4 ls []) := by
    intro fu4
    induction fu4 with
    | zero => intro v1 v2 hf; exact ob_none hf
    | succ fu4 ih4 =>
      intro v1 v2 hf H locs hP hD hS ls hl
      rw [f_X0_unlikeNumbers_b4] at hf
      have blk23 : ∀ (v1 : Int32) (v2 : Int32), f_X0_unlikeNumbers_b23 S0 (f_X0_unlikeNumbers_b4 S0 fu4) v1 v2 = some out → ∀ (H : Heap) (locs : List Loc), va_P G.1 vwCl (ce_X0 G.2.1 a0 S0) H → va_D A (ce_X0 G.2.1 a0 S0) → va_S A s.heap H locs → ∀ (ls : Array Slot), lv_has ls 3 [(0, .ref a0.1), (1, .int v1), (2, .int v2)] → W p l e (headSpec wsX0_unlikeNumbers rm_X0_unlikeNumbers).room s m args below meth c H locs 0 0 Q (F0 m 23 ls []) := by
        intro v1 v2 hf H locs hP hD hS ls hl
        rw [f_X0_unlikeNumbers_b23] at hf
        refine lv_iinc (v := v2 + 1) (lv' := [(2, .int (v2 + 1)), (0, .ref a0.1), (1, .int v1)]) hx hb dX0_unlikeNumbers_23 hl (k := 2) rfl rfl (by decide) rfl (fun ls hl => ?_)
        refine lv_goto (tgt := 4) hx hb dX0_unlikeNumbers_26 (by decide) ?_
        exact ih4 _ _ hf _ _ hP hD hS _ (lv_sub hl [1, 2, 0] rfl)
      refine lv_iload_n hx hb dX0_unlikeNumbers_4 rfl (lv_at hl 2 rfl) ?_
      refine lv_aload_n hx hb dX0_unlikeNumbers_5 rfl (lv_at hl 0 rfl) ?_
      refine va_get (D := G.1) (ci := 0) (v := .int S0.2.2.2.2) (C := RX0) (T := TX0) (N := 5) hx hb hts hinX0 hown hK hP 0 rfl rfl 4 (by decide) lk0 (fun _ h9 => h9) rfl dX0_unlikeNumbers_6 ?_
      refine lv_icmp_ge (tgt := 29) hx hb dX0_unlikeNumbers_9 (by decide) (fun c1 => ?_) (fun c1 => ?_)
      · replace hf := ob_pos c1 hf
        refine lv_iload_n hx hb dX0_unlikeNumbers_29 rfl (lv_at hl 1 rfl) ?_
        exact fin _ _ _ _ _ hf hP hD hS dX0_unlikeNumbers_30
      · replace hf := ob_neg c1 hf
        refine lv_aload_n hx hb dX0_unlikeNumbers_12 rfl (lv_at hl 0 rfl) ?_
        refine lv_iload_n hx hb dX0_unlikeNumbers_13 rfl (lv_at hl 2 rfl) ?_
        obtain ⟨r2, hr2, hf⟩ := ob_bind hf
        have hFc := va_free (wc := ce_X0 G.2.1 a0 S0) hD hS hA [0, 1, 2, 3, 4] rfl
        refine zc_ro (va_runV (As := [.int v2]) (rest := []) ⟨hx, hb, hml, hown, hts⟩ (c_X0_isFirstOfItsNumber l G a0 H.size S0 v2 _ hr2) (cwV 1 hts gX0_unlikeNumbers_X0_isFirstOfItsNumber rfl rfl rfl (by decide +kernel) ⟨Nat.le_of_ble_eq_true rfl, Nat.le_of_ble_eq_true rfl⟩) ⟨PcM.blind, va_recv hK hP (ci := 0) (q0 := 0) rfl rfl, PcM.ok hP hD hK hE hS hFc⟩ rfl rfl hl.1 rfl (lv_room (Nat.le_of_ble_eq_true rfl)) dX0_unlikeNumbers_14 ⟨Nat.le_refl _, Nat.le_refl _⟩) hP hD hS hA [0, 1, 2, 3, 4] rfl (fun H locs hP hS => ?_)
        refine lv_if_eq (tgt := 23) hx hb dX0_unlikeNumbers_17 (by decide) (fun c3 => ?_) (fun c3 => ?_)
        · replace hf := ob_pos c3 hf
          exact blk23 _ _ hf _ _ hP hD hS _ (lv_sub hl [0, 1, 2] rfl)
        · replace hf := ob_neg c3 hf
          refine lv_iinc (v := v1 + 1) (lv' := [(1, .int (v1 + 1)), (0, .ref a0.1), (2, .int v2)]) hx hb dX0_unlikeNumbers_20 hl (k := 1) rfl rfl (by decide) rfl (fun ls hl => ?_)
          exact blk23 _ _ hf _ _ hP hD hS _ (lv_sub hl [1, 0, 2] rfl)
  have go : ∀ (H : Heap) (locs : List Loc), va_P G.1 vwCl (ce_X0 G.2.1 a0 S0) H → va_D A (ce_X0 G.2.1 a0 S0) → va_S A s.heap H locs → ∀ (ls : Array Slot), lv_has ls 3 [(0, .ref a0.1)] → W p l e (headSpec wsX0_unlikeNumbers rm_X0_unlikeNumbers).room s m args below meth c H locs 0 0 Q (F0 m 0 ls []) := by
    intro H locs hP hD hS ls hl
    refine lv_iconst (v := 0) hx hb dX0_unlikeNumbers_0 (by decide) ?_
    refine lv_istore_n (lv' := [(1, .int 0), (0, .ref a0.1)]) hx hb dX0_unlikeNumbers_1 rfl hl (by decide) rfl (fun ls hl => ?_)
    refine lv_iconst (v := 0) hx hb dX0_unlikeNumbers_2 (by decide) ?_
    refine lv_istore_n (lv' := [(2, .int 0), (1, .int 0), (0, .ref a0.1)]) hx hb dX0_unlikeNumbers_3 rfl hl (by decide) rfl (fun ls hl => ?_)
    exact blk4 4096 _ _ hf _ _ hP hD hS _ (lv_sub hl [2, 1, 0] rfl)
  exact go _ _ hP hD hS _ hl
abbrev rm_X1_copyFrom : Room := { frames := 1, cells := 0, slots := 0, locals := 40 }
set_option maxHeartbeats 4000000 in
set_option maxRecDepth 100000 in
theorem c_X1_copyFrom (l : Launch) (G : zG) (a0 : AT_X1) (a1 : AT_X1) (sz : Nat) (S0 : ST_X1) (S1 : ST_X1) (out : ST_X1) (hf : f_X1_copyFrom S0 S1 = some out) : Met l yX1_copyFrom wsX1_copyFrom rm_X1_copyFrom (PcM G (ce_X1 G.2.1 a0 S0 ++ ce_X1 G.2.1 a1 S1) [.ref a0.1, .ref a1.1] sz) (QWv G (fun u => ce_X1 G.2.1 a0 u ++ ce_X1 G.2.1 a1 S1) out (va_A (ce_X1 G.2.1 a0 S0 ++ ce_X1 G.2.1 a1 S1) sz)) 0 0 (va_A (ce_X1 G.2.1 a0 S0 ++ ce_X1 G.2.1 a1 S1) sz) := by
  rw [f_X1_copyFrom] at hf
  refine Met.ofW (cc := cX1_copyFrom) (maxL := 2) (ret := none) (by decide) rfl ?_
  intro p e s m args below meth c s₁ B hml hv
  obtain ⟨hargs, hsz, hP, hK, hD0, hE⟩ := hv
  have hx := B.exec
  have hb := B.bytes
  have hr := B.returns
  have hts := atoms_spec (ws := wsX1_copyFrom) B.pre
  have hown : s.vm.findClass RX1 = some m.cls := findClass_of_methodNamed B.named
  have hlocks := B.notSynchronized
  subst hsz
  have hD := hD0.self (sz := s.heap.size)
  generalize hAe : va_A (ce_X1 G.2.1 a0 S0 ++ ce_X1 G.2.1 a1 S1) s.heap.size = A at hD hE ⊢
  have hA : ∀ q : Nat, s.heap.size ≤ q → A q := fun q h => by rw [← hAe]; exact Or.inr h
  have hS : va_S A s.heap s.heap [] := va_S.rf
  have hl := lv_entry ([.ref a0.1, .ref a1.1]) (n := 2) (Nat.le_of_ble_eq_true rfl)
  have hent : entryFrame m args 2 = F0 m 0 ((lg_sl ([.ref a0.1, .ref a1.1]) ++ List.replicate (2 - (lg_sl ([.ref a0.1, .ref a1.1])).length) Slot.unset).toArray) [] := by rw [hargs, lg_entry_eq]
  rw [hent]
  clear hent
  generalize (lg_sl ([.ref a0.1, .ref a1.1]) ++ List.replicate (2 - (lg_sl ([.ref a0.1, .ref a1.1])).length) Slot.unset).toArray = ls at hl ⊢
  have hl : lv_has ls 2 [(0, .ref a0.1), (1, .ref a1.1)] := hl
  have lk0 := hts (Cond.fieldLink RX1 9 "EnginesOnList$Fleet" "numbers" "[I") (List.mem_of_getElem? (i := 1) rfl)
  have lk1 := hts (Cond.methodLink RX1 27 arraycopyName) (List.mem_of_getElem? (i := 2) rfl)
  have lk2 := hts (Cond.native arraycopyName) (List.mem_of_getElem? (i := 3) rfl)
  have lk3 := hts (Cond.static arraycopyName) (List.mem_of_getElem? (i := 4) rfl)
  have lk4 := hts (Cond.initialized "java/lang/System") (List.mem_of_getElem? (i := 5) rfl)
  have lk5 := hts (Cond.fieldLink RX1 15 "EnginesOnList$Fleet" "kinds" "[I") (List.mem_of_getElem? (i := 6) rfl)
  have lk6 := hts (Cond.fieldLink RX1 18 "EnginesOnList$Fleet" "figures" "[I") (List.mem_of_getElem? (i := 7) rfl)
  have lk7 := hts (Cond.fieldLink RX1 21 "EnginesOnList$Fleet" "joined" "[I") (List.mem_of_getElem? (i := 8) rfl)
  have lk8 := hts (Cond.fieldLink RX1 24 "EnginesOnList$Fleet" "turns" "[I") (List.mem_of_getElem? (i := 9) rfl)
  have lk9 := hts (Cond.fieldLink RX1 33 "EnginesOnList$Fleet" "size" "I") (List.mem_of_getElem? (i := 10) rfl)
  have lk10 := hts (Cond.fieldLink RX1 37 "EnginesOnList$Fleet" "named" "I") (List.mem_of_getElem? (i := 11) rfl)
  have lk11 := hts (Cond.fieldLink RX1 40 "EnginesOnList$Fleet" "underlined" "I") (List.mem_of_getElem? (i := 12) rfl)
  have lk12 := hts (Cond.fieldLink RX1 43 "EnginesOnList$Fleet" "friends" "I") (List.mem_of_getElem? (i := 13) rfl)
  have hinX1 : ∀ w ∈ wsX10, w ∈ wsX1_copyFrom := by decide +kernel
  have fin : ∀ (pc : Nat) (u : ST_X1) (H : Heap) (locs : List Loc) (ls : Array Slot), some u = some out → va_P G.1 vwCl (ce_X1 G.2.1 a0 u ++ ce_X1 G.2.1 a1 S1) H → va_D A (ce_X1 G.2.1 a0 u ++ ce_X1 G.2.1 a1 S1) → va_S A s.heap H locs → decode cX1_copyFrom pc = .ok (.return_, 1) → W p l e (headSpec wsX1_copyFrom rm_X1_copyFrom).room s m args below meth c H locs 0 0 (MQ below (QWv G (fun u => ce_X1 G.2.1 a0 u ++ ce_X1 G.2.1 a1 S1) out A) args s 0 0 A) (F0 m pc ls []) := fun pc u H locs ls ho hP hD hS hd => W.vret hx hb hr (fun t ht hW => ⟨⟨u, rfl, Option.some.inj ho, by first | (rw [ht]; exact hP) | (dsimp only; rw [ht]; exact hP), hD⟩, hS.F ht⟩) hS.2.2 hd
  generalize MQ below (QWv G (fun u => ce_X1 G.2.1 a0 u ++ ce_X1 G.2.1 a1 S1) out A) args s 0 0 A = Q at fin ⊢
  have go : ∀ (H : Heap) (locs : List Loc), va_P G.1 vwCl (ce_X1 G.2.1 a0 S0 ++ ce_X1 G.2.1 a1 S1) H → va_D A (ce_X1 G.2.1 a0 S0 ++ ce_X1 G.2.1 a1 S1) → va_S A s.heap H locs → ∀ (ls : Array Slot), lv_has ls 2 [(0, .ref a0.1), (1, .ref a1.1)] → W p l e (headSpec wsX1_copyFrom rm_X1_copyFrom).room s m args below meth c H locs 0 0 Q (F0 m 0 ls []) := by
    intro H locs hP hD hS ls hl
    refine lv_aload_n hx hb dX1_copyFrom_0 rfl (lv_at hl 1 rfl) ?_
    refine va_get (D := G.1) (ci := 1) (v := .ref a1.2.1) (C := RX1) (T := TX1) (N := 9) hx hb hts hinX1 hown hK hP 6 rfl rfl 0 (by decide) lk0 (fun _ h9 => h9) rfl dX1_copyFrom_1 ?_
    refine lv_iconst (v := 0) hx hb dX1_copyFrom_4 (by decide) ?_
    refine lv_aload_n hx hb dX1_copyFrom_5 rfl (lv_at hl 0 rfl) ?_
    refine va_get (D := G.1) (ci := 1) (v := .ref a0.2.1) (C := RX1) (T := TX1) (N := 9) hx hb hts hinX1 hown hK hP 0 rfl rfl 0 (by decide) lk0 (fun _ h9 => h9) rfl dX1_copyFrom_6 ?_
    refine lv_iconst (v := 0) hx hb dX1_copyFrom_9 (by decide) ?_
    refine lv_bipush (v := 7) hx hb dX1_copyFrom_10 (by decide) ?_
    refine va_copyi hx hb (hml.trans hl.1.symm) hown lk1 lk2 lk3 lk4 hK hP hD hS 7 1 0 0 rfl rfl rfl rfl rfl (sp := 0) (dp := 0) (n := 7) (by decide) (by decide) (by decide) (Nat.le_of_ble_eq_true rfl) (Nat.le_of_ble_eq_true rfl) (fun _ _ => rfl) (Nat.le_of_ble_eq_true rfl) (Nat.le_of_ble_eq_true rfl) dX1_copyFrom_12 (fun H locs hP hD hS => ?_)
    have hP : va_P G.1 vwCl (ce_X1 G.2.1 a0 ((va_cpy S1.1 S0.1 0 0 7), S0.2.1, S0.2.2.1, S0.2.2.2.1, S0.2.2.2.2.1, S0.2.2.2.2.2.1, S0.2.2.2.2.2.2.1, S0.2.2.2.2.2.2.2.1, S0.2.2.2.2.2.2.2.2) ++ ce_X1 G.2.1 a1 S1) H := hP
    have hD : va_D A (ce_X1 G.2.1 a0 ((va_cpy S1.1 S0.1 0 0 7), S0.2.1, S0.2.2.1, S0.2.2.2.1, S0.2.2.2.2.1, S0.2.2.2.2.2.1, S0.2.2.2.2.2.2.1, S0.2.2.2.2.2.2.2.1, S0.2.2.2.2.2.2.2.2) ++ ce_X1 G.2.1 a1 S1) := hD
    refine lv_aload_n hx hb dX1_copyFrom_15 rfl (lv_at hl 1 rfl) ?_
    refine va_get (D := G.1) (ci := 1) (v := .ref a1.2.2.1) (C := RX1) (T := TX1) (N := 9) hx hb hts hinX1 hown hK hP 6 rfl rfl 1 (by decide) lk5 (fun _ h9 => h9) rfl dX1_copyFrom_16 ?_
    refine lv_iconst (v := 0) hx hb dX1_copyFrom_19 (by decide) ?_
    refine lv_aload_n hx hb dX1_copyFrom_20 rfl (lv_at hl 0 rfl) ?_
    refine va_get (D := G.1) (ci := 1) (v := .ref a0.2.2.1) (C := RX1) (T := TX1) (N := 9) hx hb hts hinX1 hown hK hP 0 rfl rfl 1 (by decide) lk5 (fun _ h9 => h9) rfl dX1_copyFrom_21 ?_
    refine lv_iconst (v := 0) hx hb dX1_copyFrom_24 (by decide) ?_
    refine lv_bipush (v := 7) hx hb dX1_copyFrom_25 (by decide) ?_
    refine va_copyi hx hb (hml.trans hl.1.symm) hown lk1 lk2 lk3 lk4 hK hP hD hS 8 2 0 0 rfl rfl rfl rfl rfl (sp := 0) (dp := 0) (n := 7) (by decide) (by decide) (by decide) (Nat.le_of_ble_eq_true rfl) (Nat.le_of_ble_eq_true rfl) (fun _ _ => rfl) (Nat.le_of_ble_eq_true rfl) (Nat.le_of_ble_eq_true rfl) dX1_copyFrom_27 (fun H locs hP hD hS => ?_)
    have hP : va_P G.1 vwCl (ce_X1 G.2.1 a0 ((va_cpy S1.1 S0.1 0 0 7), (va_cpy S1.2.1 S0.2.1 0 0 7), S0.2.2.1, S0.2.2.2.1, S0.2.2.2.2.1, S0.2.2.2.2.2.1, S0.2.2.2.2.2.2.1, S0.2.2.2.2.2.2.2.1, S0.2.2.2.2.2.2.2.2) ++ ce_X1 G.2.1 a1 S1) H := hP
    have hD : va_D A (ce_X1 G.2.1 a0 ((va_cpy S1.1 S0.1 0 0 7), (va_cpy S1.2.1 S0.2.1 0 0 7), S0.2.2.1, S0.2.2.2.1, S0.2.2.2.2.1, S0.2.2.2.2.2.1, S0.2.2.2.2.2.2.1, S0.2.2.2.2.2.2.2.1, S0.2.2.2.2.2.2.2.2) ++ ce_X1 G.2.1 a1 S1) := hD
    refine lv_aload_n hx hb dX1_copyFrom_30 rfl (lv_at hl 1 rfl) ?_
    refine va_get (D := G.1) (ci := 1) (v := .ref a1.2.2.2.1) (C := RX1) (T := TX1) (N := 9) hx hb hts hinX1 hown hK hP 6 rfl rfl 2 (by decide) lk6 (fun _ h9 => h9) rfl dX1_copyFrom_31 ?_
    refine lv_iconst (v := 0) hx hb dX1_copyFrom_34 (by decide) ?_
    refine lv_aload_n hx hb dX1_copyFrom_35 rfl (lv_at hl 0 rfl) ?_
    refine va_get (D := G.1) (ci := 1) (v := .ref a0.2.2.2.1) (C := RX1) (T := TX1) (N := 9) hx hb hts hinX1 hown hK hP 0 rfl rfl 2 (by decide) lk6 (fun _ h9 => h9) rfl dX1_copyFrom_36 ?_
    refine lv_iconst (v := 0) hx hb dX1_copyFrom_39 (by decide) ?_
    refine lv_bipush (v := 7) hx hb dX1_copyFrom_40 (by decide) ?_
    refine va_copyi hx hb (hml.trans hl.1.symm) hown lk1 lk2 lk3 lk4 hK hP hD hS 9 3 0 0 rfl rfl rfl rfl rfl (sp := 0) (dp := 0) (n := 7) (by decide) (by decide) (by decide) (Nat.le_of_ble_eq_true rfl) (Nat.le_of_ble_eq_true rfl) (fun _ _ => rfl) (Nat.le_of_ble_eq_true rfl) (Nat.le_of_ble_eq_true rfl) dX1_copyFrom_42 (fun H locs hP hD hS => ?_)
    have hP : va_P G.1 vwCl (ce_X1 G.2.1 a0 ((va_cpy S1.1 S0.1 0 0 7), (va_cpy S1.2.1 S0.2.1 0 0 7), (va_cpy S1.2.2.1 S0.2.2.1 0 0 7), S0.2.2.2.1, S0.2.2.2.2.1, S0.2.2.2.2.2.1, S0.2.2.2.2.2.2.1, S0.2.2.2.2.2.2.2.1, S0.2.2.2.2.2.2.2.2) ++ ce_X1 G.2.1 a1 S1) H := hP
    have hD : va_D A (ce_X1 G.2.1 a0 ((va_cpy S1.1 S0.1 0 0 7), (va_cpy S1.2.1 S0.2.1 0 0 7), (va_cpy S1.2.2.1 S0.2.2.1 0 0 7), S0.2.2.2.1, S0.2.2.2.2.1, S0.2.2.2.2.2.1, S0.2.2.2.2.2.2.1, S0.2.2.2.2.2.2.2.1, S0.2.2.2.2.2.2.2.2) ++ ce_X1 G.2.1 a1 S1) := hD
    refine lv_aload_n hx hb dX1_copyFrom_45 rfl (lv_at hl 1 rfl) ?_
    refine va_get (D := G.1) (ci := 1) (v := .ref a1.2.2.2.2.1) (C := RX1) (T := TX1) (N := 9) hx hb hts hinX1 hown hK hP 6 rfl rfl 3 (by decide) lk7 (fun _ h9 => h9) rfl dX1_copyFrom_46 ?_
    refine lv_iconst (v := 0) hx hb dX1_copyFrom_49 (by decide) ?_
    refine lv_aload_n hx hb dX1_copyFrom_50 rfl (lv_at hl 0 rfl) ?_
    refine va_get (D := G.1) (ci := 1) (v := .ref a0.2.2.2.2.1) (C := RX1) (T := TX1) (N := 9) hx hb hts hinX1 hown hK hP 0 rfl rfl 3 (by decide) lk7 (fun _ h9 => h9) rfl dX1_copyFrom_51 ?_
    refine lv_iconst (v := 0) hx hb dX1_copyFrom_54 (by decide) ?_
    refine lv_bipush (v := 7) hx hb dX1_copyFrom_55 (by decide) ?_
    refine va_copyi hx hb (hml.trans hl.1.symm) hown lk1 lk2 lk3 lk4 hK hP hD hS 10 4 0 0 rfl rfl rfl rfl rfl (sp := 0) (dp := 0) (n := 7) (by decide) (by decide) (by decide) (Nat.le_of_ble_eq_true rfl) (Nat.le_of_ble_eq_true rfl) (fun _ _ => rfl) (Nat.le_of_ble_eq_true rfl) (Nat.le_of_ble_eq_true rfl) dX1_copyFrom_57 (fun H locs hP hD hS => ?_)
    have hP : va_P G.1 vwCl (ce_X1 G.2.1 a0 ((va_cpy S1.1 S0.1 0 0 7), (va_cpy S1.2.1 S0.2.1 0 0 7), (va_cpy S1.2.2.1 S0.2.2.1 0 0 7), (va_cpy S1.2.2.2.1 S0.2.2.2.1 0 0 7), S0.2.2.2.2.1, S0.2.2.2.2.2.1, S0.2.2.2.2.2.2.1, S0.2.2.2.2.2.2.2.1, S0.2.2.2.2.2.2.2.2) ++ ce_X1 G.2.1 a1 S1) H := hP
    have hD : va_D A (ce_X1 G.2.1 a0 ((va_cpy S1.1 S0.1 0 0 7), (va_cpy S1.2.1 S0.2.1 0 0 7), (va_cpy S1.2.2.1 S0.2.2.1 0 0 7), (va_cpy S1.2.2.2.1 S0.2.2.2.1 0 0 7), S0.2.2.2.2.1, S0.2.2.2.2.2.1, S0.2.2.2.2.2.2.1, S0.2.2.2.2.2.2.2.1, S0.2.2.2.2.2.2.2.2) ++ ce_X1 G.2.1 a1 S1) := hD
    refine lv_aload_n hx hb dX1_copyFrom_60 rfl (lv_at hl 1 rfl) ?_
    refine va_get (D := G.1) (ci := 1) (v := .ref a1.2.2.2.2.2) (C := RX1) (T := TX1) (N := 9) hx hb hts hinX1 hown hK hP 6 rfl rfl 4 (by decide) lk8 (fun _ h9 => h9) rfl dX1_copyFrom_61 ?_
    refine lv_iconst (v := 0) hx hb dX1_copyFrom_64 (by decide) ?_
    refine lv_aload_n hx hb dX1_copyFrom_65 rfl (lv_at hl 0 rfl) ?_
    refine va_get (D := G.1) (ci := 1) (v := .ref a0.2.2.2.2.2) (C := RX1) (T := TX1) (N := 9) hx hb hts hinX1 hown hK hP 0 rfl rfl 4 (by decide) lk8 (fun _ h9 => h9) rfl dX1_copyFrom_66 ?_
    refine lv_iconst (v := 0) hx hb dX1_copyFrom_69 (by decide) ?_
    refine lv_bipush (v := 49) hx hb dX1_copyFrom_70 (by decide) ?_
    refine va_copyi hx hb (hml.trans hl.1.symm) hown lk1 lk2 lk3 lk4 hK hP hD hS 11 5 0 0 rfl rfl rfl rfl rfl (sp := 0) (dp := 0) (n := 49) (by decide) (by decide) (by decide) (Nat.le_of_ble_eq_true rfl) (Nat.le_of_ble_eq_true rfl) (fun _ _ => rfl) (Nat.le_of_ble_eq_true rfl) (Nat.le_of_ble_eq_true rfl) dX1_copyFrom_72 (fun H locs hP hD hS => ?_)
    have hP : va_P G.1 vwCl (ce_X1 G.2.1 a0 ((va_cpy S1.1 S0.1 0 0 7), (va_cpy S1.2.1 S0.2.1 0 0 7), (va_cpy S1.2.2.1 S0.2.2.1 0 0 7), (va_cpy S1.2.2.2.1 S0.2.2.2.1 0 0 7), (va_cpy S1.2.2.2.2.1 S0.2.2.2.2.1 0 0 49), S0.2.2.2.2.2.1, S0.2.2.2.2.2.2.1, S0.2.2.2.2.2.2.2.1, S0.2.2.2.2.2.2.2.2) ++ ce_X1 G.2.1 a1 S1) H := hP
    have hD : va_D A (ce_X1 G.2.1 a0 ((va_cpy S1.1 S0.1 0 0 7), (va_cpy S1.2.1 S0.2.1 0 0 7), (va_cpy S1.2.2.1 S0.2.2.1 0 0 7), (va_cpy S1.2.2.2.1 S0.2.2.2.1 0 0 7), (va_cpy S1.2.2.2.2.1 S0.2.2.2.2.1 0 0 49), S0.2.2.2.2.2.1, S0.2.2.2.2.2.2.1, S0.2.2.2.2.2.2.2.1, S0.2.2.2.2.2.2.2.2) ++ ce_X1 G.2.1 a1 S1) := hD
    refine lv_aload_n hx hb dX1_copyFrom_75 rfl (lv_at hl 0 rfl) ?_
    refine lv_aload_n hx hb dX1_copyFrom_76 rfl (lv_at hl 1 rfl) ?_
    refine va_get (D := G.1) (ci := 1) (v := .int S1.2.2.2.2.2.1) (C := RX1) (T := TX1) (N := 9) hx hb hts hinX1 hown hK hP 6 rfl rfl 5 (by decide) lk9 (fun _ h9 => h9) rfl dX1_copyFrom_77 ?_
    refine va_put (D := G.1) (ci := 1) (v := .int S1.2.2.2.2.2.1) (ty := .int) (C := RX1) (T := TX1) (N := 9) hx hb hts hinX1 tyX1 tyX1_ok nmX1 hown hK hP hD hS 0 rfl rfl 5 (by decide) lk9 (fun _ h9 => h9) rfl (by decide +kernel) rfl rfl (Nat.le_of_ble_eq_true rfl) dX1_copyFrom_80 (fun H locs hP hD hS => ?_)
    have hP : va_P G.1 vwCl (ce_X1 G.2.1 a0 ((va_cpy S1.1 S0.1 0 0 7), (va_cpy S1.2.1 S0.2.1 0 0 7), (va_cpy S1.2.2.1 S0.2.2.1 0 0 7), (va_cpy S1.2.2.2.1 S0.2.2.2.1 0 0 7), (va_cpy S1.2.2.2.2.1 S0.2.2.2.2.1 0 0 49), S1.2.2.2.2.2.1, S0.2.2.2.2.2.2.1, S0.2.2.2.2.2.2.2.1, S0.2.2.2.2.2.2.2.2) ++ ce_X1 G.2.1 a1 S1) H := hP
    have hD : va_D A (ce_X1 G.2.1 a0 ((va_cpy S1.1 S0.1 0 0 7), (va_cpy S1.2.1 S0.2.1 0 0 7), (va_cpy S1.2.2.1 S0.2.2.1 0 0 7), (va_cpy S1.2.2.2.1 S0.2.2.2.1 0 0 7), (va_cpy S1.2.2.2.2.1 S0.2.2.2.2.1 0 0 49), S1.2.2.2.2.2.1, S0.2.2.2.2.2.2.1, S0.2.2.2.2.2.2.2.1, S0.2.2.2.2.2.2.2.2) ++ ce_X1 G.2.1 a1 S1) := hD
    refine lv_aload_n hx hb dX1_copyFrom_83 rfl (lv_at hl 0 rfl) ?_
    refine lv_aload_n hx hb dX1_copyFrom_84 rfl (lv_at hl 1 rfl) ?_
    refine va_get (D := G.1) (ci := 1) (v := .int S1.2.2.2.2.2.2.1) (C := RX1) (T := TX1) (N := 9) hx hb hts hinX1 hown hK hP 6 rfl rfl 6 (by decide) lk10 (fun _ h9 => h9) rfl dX1_copyFrom_85 ?_
    refine va_put (D := G.1) (ci := 1) (v := .int S1.2.2.2.2.2.2.1) (ty := .int) (C := RX1) (T := TX1) (N := 9) hx hb hts hinX1 tyX1 tyX1_ok nmX1 hown hK hP hD hS 0 rfl rfl 6 (by decide) lk10 (fun _ h9 => h9) rfl (by decide +kernel) rfl rfl (Nat.le_of_ble_eq_true rfl) dX1_copyFrom_88 (fun H locs hP hD hS => ?_)
    have hP : va_P G.1 vwCl (ce_X1 G.2.1 a0 ((va_cpy S1.1 S0.1 0 0 7), (va_cpy S1.2.1 S0.2.1 0 0 7), (va_cpy S1.2.2.1 S0.2.2.1 0 0 7), (va_cpy S1.2.2.2.1 S0.2.2.2.1 0 0 7), (va_cpy S1.2.2.2.2.1 S0.2.2.2.2.1 0 0 49), S1.2.2.2.2.2.1, S1.2.2.2.2.2.2.1, S0.2.2.2.2.2.2.2.1, S0.2.2.2.2.2.2.2.2) ++ ce_X1 G.2.1 a1 S1) H := hP
    have hD : va_D A (ce_X1 G.2.1 a0 ((va_cpy S1.1 S0.1 0 0 7), (va_cpy S1.2.1 S0.2.1 0 0 7), (va_cpy S1.2.2.1 S0.2.2.1 0 0 7), (va_cpy S1.2.2.2.1 S0.2.2.2.1 0 0 7), (va_cpy S1.2.2.2.2.1 S0.2.2.2.2.1 0 0 49), S1.2.2.2.2.2.1, S1.2.2.2.2.2.2.1, S0.2.2.2.2.2.2.2.1, S0.2.2.2.2.2.2.2.2) ++ ce_X1 G.2.1 a1 S1) := hD
    refine lv_aload_n hx hb dX1_copyFrom_91 rfl (lv_at hl 0 rfl) ?_
    refine lv_aload_n hx hb dX1_copyFrom_92 rfl (lv_at hl 1 rfl) ?_
    refine va_get (D := G.1) (ci := 1) (v := .int S1.2.2.2.2.2.2.2.1) (C := RX1) (T := TX1) (N := 9) hx hb hts hinX1 hown hK hP 6 rfl rfl 7 (by decide) lk11 (fun _ h9 => h9) rfl dX1_copyFrom_93 ?_
    refine va_put (D := G.1) (ci := 1) (v := .int S1.2.2.2.2.2.2.2.1) (ty := .int) (C := RX1) (T := TX1) (N := 9) hx hb hts hinX1 tyX1 tyX1_ok nmX1 hown hK hP hD hS 0 rfl rfl 7 (by decide) lk11 (fun _ h9 => h9) rfl (by decide +kernel) rfl rfl (Nat.le_of_ble_eq_true rfl) dX1_copyFrom_96 (fun H locs hP hD hS => ?_)
    have hP : va_P G.1 vwCl (ce_X1 G.2.1 a0 ((va_cpy S1.1 S0.1 0 0 7), (va_cpy S1.2.1 S0.2.1 0 0 7), (va_cpy S1.2.2.1 S0.2.2.1 0 0 7), (va_cpy S1.2.2.2.1 S0.2.2.2.1 0 0 7), (va_cpy S1.2.2.2.2.1 S0.2.2.2.2.1 0 0 49), S1.2.2.2.2.2.1, S1.2.2.2.2.2.2.1, S1.2.2.2.2.2.2.2.1, S0.2.2.2.2.2.2.2.2) ++ ce_X1 G.2.1 a1 S1) H := hP
    have hD : va_D A (ce_X1 G.2.1 a0 ((va_cpy S1.1 S0.1 0 0 7), (va_cpy S1.2.1 S0.2.1 0 0 7), (va_cpy S1.2.2.1 S0.2.2.1 0 0 7), (va_cpy S1.2.2.2.1 S0.2.2.2.1 0 0 7), (va_cpy S1.2.2.2.2.1 S0.2.2.2.2.1 0 0 49), S1.2.2.2.2.2.1, S1.2.2.2.2.2.2.1, S1.2.2.2.2.2.2.2.1, S0.2.2.2.2.2.2.2.2) ++ ce_X1 G.2.1 a1 S1) := hD
    refine lv_aload_n hx hb dX1_copyFrom_99 rfl (lv_at hl 0 rfl) ?_
    refine lv_aload_n hx hb dX1_copyFrom_100 rfl (lv_at hl 1 rfl) ?_
    refine va_get (D := G.1) (ci := 1) (v := .int S1.2.2.2.2.2.2.2.2) (C := RX1) (T := TX1) (N := 9) hx hb hts hinX1 hown hK hP 6 rfl rfl 8 (by decide) lk12 (fun _ h9 => h9) rfl dX1_copyFrom_101 ?_
    refine va_put (D := G.1) (ci := 1) (v := .int S1.2.2.2.2.2.2.2.2) (ty := .int) (C := RX1) (T := TX1) (N := 9) hx hb hts hinX1 tyX1 tyX1_ok nmX1 hown hK hP hD hS 0 rfl rfl 8 (by decide) lk12 (fun _ h9 => h9) rfl (by decide +kernel) rfl rfl (Nat.le_of_ble_eq_true rfl) dX1_copyFrom_104 (fun H locs hP hD hS => ?_)
    have hP : va_P G.1 vwCl (ce_X1 G.2.1 a0 ((va_cpy S1.1 S0.1 0 0 7), (va_cpy S1.2.1 S0.2.1 0 0 7), (va_cpy S1.2.2.1 S0.2.2.1 0 0 7), (va_cpy S1.2.2.2.1 S0.2.2.2.1 0 0 7), (va_cpy S1.2.2.2.2.1 S0.2.2.2.2.1 0 0 49), S1.2.2.2.2.2.1, S1.2.2.2.2.2.2.1, S1.2.2.2.2.2.2.2.1, S1.2.2.2.2.2.2.2.2) ++ ce_X1 G.2.1 a1 S1) H := hP
    have hD : va_D A (ce_X1 G.2.1 a0 ((va_cpy S1.1 S0.1 0 0 7), (va_cpy S1.2.1 S0.2.1 0 0 7), (va_cpy S1.2.2.1 S0.2.2.1 0 0 7), (va_cpy S1.2.2.2.1 S0.2.2.2.1 0 0 7), (va_cpy S1.2.2.2.2.1 S0.2.2.2.2.1 0 0 49), S1.2.2.2.2.2.1, S1.2.2.2.2.2.2.1, S1.2.2.2.2.2.2.2.1, S1.2.2.2.2.2.2.2.2) ++ ce_X1 G.2.1 a1 S1) := hD
    exact fin _ _ _ _ _ hf hP hD hS dX1_copyFrom_107
  exact go _ _ hP hD hS _ hl
abbrev rm_X1_knows : Room := { frames := 1, cells := 0, slots := 0, locals := 24 }
set_option maxHeartbeats 4000000 in
set_option maxRecDepth 100000 in
theorem c_X1_knows (l : Launch) (G : zG) (a0 : AT_X1) (sz : Nat) (S0 : ST_X1) (p1 : Int32) (out : Int32) (hf : f_X1_knows S0 p1 = some out) : Met l yX1_knows wsX1_knows rm_X1_knows (PcM G (ce_X1 G.2.1 a0 S0) [.ref a0.1, .int p1] sz) (QRo G (ce_X1 G.2.1 a0 S0) out (va_A (ce_X1 G.2.1 a0 S0) sz)) 0 0 (va_A (ce_X1 G.2.1 a0 S0) sz) := by
  rw [f_X1_knows] at hf
  refine Met.ofW (cc := cX1_knows) (maxL := 2) (ret := (some .boolean)) (by decide) rfl ?_
  intro p e s m args below meth c s₁ B hml hv
  obtain ⟨hargs, hsz, hP, hK, hD0, hE⟩ := hv
  have hx := B.exec
  have hb := B.bytes
  have hr := B.returns
  have hts := atoms_spec (ws := wsX1_knows) B.pre
  have hown : s.vm.findClass RX1 = some m.cls := findClass_of_methodNamed B.named
  have hlocks := B.notSynchronized
  subst hsz
  have hD := hD0.self (sz := s.heap.size)
  generalize hAe : va_A (ce_X1 G.2.1 a0 S0) s.heap.size = A at hD hE ⊢
  have hA : ∀ q : Nat, s.heap.size ≤ q → A q := fun q h => by rw [← hAe]; exact Or.inr h
  have hS : va_S A s.heap s.heap [] := va_S.rf
  have hl := lv_entry ([.ref a0.1, .int p1]) (n := 2) (Nat.le_of_ble_eq_true rfl)
  have hent : entryFrame m args 2 = F0 m 0 ((lg_sl ([.ref a0.1, .int p1]) ++ List.replicate (2 - (lg_sl ([.ref a0.1, .int p1])).length) Slot.unset).toArray) [] := by rw [hargs, lg_entry_eq]
  rw [hent]
  clear hent
  generalize (lg_sl ([.ref a0.1, .int p1]) ++ List.replicate (2 - (lg_sl ([.ref a0.1, .int p1])).length) Slot.unset).toArray = ls at hl ⊢
  have hl : lv_has ls 2 [(0, .ref a0.1), (1, .int p1)] := hl
  have lk0 := hts (Cond.fieldLink RX1 33 "EnginesOnList$Fleet" "size" "I") (List.mem_of_getElem? (i := 1) rfl)
  have hinX1 : ∀ w ∈ wsX10, w ∈ wsX1_knows := by decide +kernel
  have fin : ∀ (pc : Nat) (v : Int32) (H : Heap) (locs : List Loc) (ls : Array Slot), some v = some out → narrow .boolean (.int v) = .int v → va_P G.1 vwCl (ce_X1 G.2.1 a0 S0) H → va_D A (ce_X1 G.2.1 a0 S0) → va_S A s.heap H locs → decode cX1_knows pc = .ok (.ireturn, 1) → W p l e (headSpec wsX1_knows rm_X1_knows).room s m args below meth c H locs 0 0 (MQ below (QRo G (ce_X1 G.2.1 a0 S0) out A) args s 0 0 A) (F0 m pc ls [.int v]) := fun pc v H locs ls ho hn hP hD hS hd => W.zret (v := v) hx hb hr hn (fun t ht hW => ⟨⟨v, (), rfl, Option.some.inj ho, by first | (rw [ht]; exact hP) | (dsimp only; rw [ht]; exact hP)⟩, hS.F ht⟩) hS.2.2 hd
  generalize MQ below (QRo G (ce_X1 G.2.1 a0 S0) out A) args s 0 0 A = Q at fin ⊢
  have blk22 : f_X1_knows_b22 S0 = some out → ∀ (H : Heap) (locs : List Loc), va_P G.1 vwCl (ce_X1 G.2.1 a0 S0) H → va_D A (ce_X1 G.2.1 a0 S0) → va_S A s.heap H locs → ∀ (ls : Array Slot), lv_has ls 2 [] → W p l e (headSpec wsX1_knows rm_X1_knows).room s m args below meth c H locs 0 0 Q (F0 m 22 ls []) := by
    intro hf H locs hP hD hS ls hl
    rw [f_X1_knows_b22] at hf
    refine lv_iconst (v := 0) hx hb dX1_knows_22 (by decide) ?_
    exact fin _ _ _ _ _ hf rfl hP hD hS dX1_knows_23
  have go : ∀ (H : Heap) (locs : List Loc), va_P G.1 vwCl (ce_X1 G.2.1 a0 S0) H → va_D A (ce_X1 G.2.1 a0 S0) → va_S A s.heap H locs → ∀ (ls : Array Slot), lv_has ls 2 [(0, .ref a0.1), (1, .int p1)] → W p l e (headSpec wsX1_knows rm_X1_knows).room s m args below meth c H locs 0 0 Q (F0 m 0 ls []) := by
    intro H locs hP hD hS ls hl
    refine lv_iload_n hx hb dX1_knows_0 rfl (lv_at hl 1 rfl) ?_
    refine lv_if_lt (tgt := 22) hx hb dX1_knows_1 (by decide) (fun c1 => ?_) (fun c1 => ?_)
    · replace hf := ob_pos c1 hf
      exact blk22  hf _ _ hP hD hS _ (lv_sub hl [] rfl)
    · replace hf := ob_neg c1 hf
      refine lv_iload_n hx hb dX1_knows_4 rfl (lv_at hl 1 rfl) ?_
      refine lv_aload_n hx hb dX1_knows_5 rfl (lv_at hl 0 rfl) ?_
      refine va_get (D := G.1) (ci := 1) (v := .int S0.2.2.2.2.2.1) (C := RX1) (T := TX1) (N := 9) hx hb hts hinX1 hown hK hP 0 rfl rfl 5 (by decide) lk0 (fun _ h9 => h9) rfl dX1_knows_6 ?_
      refine lv_icmp_ge (tgt := 22) hx hb dX1_knows_9 (by decide) (fun c2 => ?_) (fun c2 => ?_)
      · replace hf := ob_pos c2 hf
        exact blk22  hf _ _ hP hD hS _ (lv_sub hl [] rfl)
      · replace hf := ob_neg c2 hf
        refine lv_iload_n hx hb dX1_knows_12 rfl (lv_at hl 1 rfl) ?_
        refine lv_bipush (v := 7) hx hb dX1_knows_13 (by decide) ?_
        refine lv_icmp_ge (tgt := 22) hx hb dX1_knows_15 (by decide) (fun c3 => ?_) (fun c3 => ?_)
        · replace hf := ob_pos c3 hf
          exact blk22  hf _ _ hP hD hS _ (lv_sub hl [] rfl)
        · replace hf := ob_neg c3 hf
          refine lv_iconst (v := 1) hx hb dX1_knows_18 (by decide) ?_
          refine lv_goto (tgt := 23) hx hb dX1_knows_19 (by decide) ?_
          exact fin _ _ _ _ _ hf rfl hP hD hS dX1_knows_23
  exact go _ _ hP hD hS _ hl
abbrev rm_X1_number : Room := { frames := 2, cells := 0, slots := 0, locals := 45 }
set_option maxHeartbeats 4000000 in
set_option maxRecDepth 100000 in
theorem c_X1_number (l : Launch) (G : zG) (a0 : AT_X1) (sz : Nat) (S0 : ST_X1) (p1 : Int32) (out : Int32) (hf : f_X1_number S0 p1 = some out) : Met l yX1_number wsX1_number rm_X1_number (PcM G (ce_X1 G.2.1 a0 S0) [.ref a0.1, .int p1] sz) (QRo G (ce_X1 G.2.1 a0 S0) out (va_A (ce_X1 G.2.1 a0 S0) sz)) 0 0 (va_A (ce_X1 G.2.1 a0 S0) sz) := by
  rw [f_X1_number] at hf
  refine Met.ofW (cc := cX1_number) (maxL := 2) (ret := (some .int)) (by decide) rfl ?_
  intro p e s m args below meth c s₁ B hml hv
  obtain ⟨hargs, hsz, hP, hK, hD0, hE⟩ := hv
  have hx := B.exec
  have hb := B.bytes
  have hr := B.returns
  have hts := atoms_spec (ws := wsX1_number) B.pre
  have hown : s.vm.findClass RX1 = some m.cls := findClass_of_methodNamed B.named
  have hlocks := B.notSynchronized
  subst hsz
  have hD := hD0.self (sz := s.heap.size)
  generalize hAe : va_A (ce_X1 G.2.1 a0 S0) s.heap.size = A at hD hE ⊢
  have hA : ∀ q : Nat, s.heap.size ≤ q → A q := fun q h => by rw [← hAe]; exact Or.inr h
  have hS : va_S A s.heap s.heap [] := va_S.rf
  have hl := lv_entry ([.ref a0.1, .int p1]) (n := 2) (Nat.le_of_ble_eq_true rfl)
  have hent : entryFrame m args 2 = F0 m 0 ((lg_sl ([.ref a0.1, .int p1]) ++ List.replicate (2 - (lg_sl ([.ref a0.1, .int p1])).length) Slot.unset).toArray) [] := by rw [hargs, lg_entry_eq]
  rw [hent]
  clear hent
  generalize (lg_sl ([.ref a0.1, .int p1]) ++ List.replicate (2 - (lg_sl ([.ref a0.1, .int p1])).length) Slot.unset).toArray = ls at hl ⊢
  have hl : lv_has ls 2 [(0, .ref a0.1), (1, .int p1)] := hl
  have lk0 := hts (Cond.fieldLink RX1 9 "EnginesOnList$Fleet" "numbers" "[I") (List.mem_of_getElem? (i := 1) rfl)
  have hinX1 : ∀ w ∈ wsX10, w ∈ wsX1_number := by decide +kernel
  have fin : ∀ (pc : Nat) (v : Int32) (H : Heap) (locs : List Loc) (ls : Array Slot), some v = some out → va_P G.1 vwCl (ce_X1 G.2.1 a0 S0) H → va_D A (ce_X1 G.2.1 a0 S0) → va_S A s.heap H locs → decode cX1_number pc = .ok (.ireturn, 1) → W p l e (headSpec wsX1_number rm_X1_number).room s m args below meth c H locs 0 0 (MQ below (QRo G (ce_X1 G.2.1 a0 S0) out A) args s 0 0 A) (F0 m pc ls [.int v]) := fun pc v H locs ls ho hP hD hS hd => W.iret (v := v) hx hb hr (fun t ht hW => ⟨⟨v, (), rfl, Option.some.inj ho, by first | (rw [ht]; exact hP) | (dsimp only; rw [ht]; exact hP)⟩, hS.F ht⟩) hS.2.2 hd
  generalize MQ below (QRo G (ce_X1 G.2.1 a0 S0) out A) args s 0 0 A = Q at fin ⊢
  have go : ∀ (H : Heap) (locs : List Loc), va_P G.1 vwCl (ce_X1 G.2.1 a0 S0) H → va_D A (ce_X1 G.2.1 a0 S0) → va_S A s.heap H locs → ∀ (ls : Array Slot), lv_has ls 2 [(0, .ref a0.1), (1, .int p1)] → W p l e (headSpec wsX1_number rm_X1_number).room s m args below meth c H locs 0 0 Q (F0 m 0 ls []) := by
    intro H locs hP hD hS ls hl
    refine lv_aload_n hx hb dX1_number_0 rfl (lv_at hl 0 rfl) ?_
    refine lv_iload_n hx hb dX1_number_1 rfl (lv_at hl 1 rfl) ?_
    obtain ⟨r1, hr1, hf⟩ := ob_bind hf
    have hFc := va_free (wc := ce_X1 G.2.1 a0 S0) hD hS hA [0, 1, 2, 3, 4, 5] rfl
    refine zc_ro (va_runV (As := [.int p1]) (rest := []) ⟨hx, hb, hml, hown, hts⟩ (c_X1_knows l G a0 H.size S0 p1 _ hr1) (cwV 1 hts gX1_number_X1_knows rfl rfl rfl (by decide +kernel) ⟨Nat.le_of_ble_eq_true rfl, Nat.le_of_ble_eq_true rfl⟩) ⟨PcM.blind, va_recv hK hP (ci := 1) (q0 := 0) rfl rfl, PcM.ok hP hD hK hE hS hFc⟩ rfl rfl hl.1 rfl (lv_room (Nat.le_of_ble_eq_true rfl)) dX1_number_2 ⟨Nat.le_refl _, Nat.le_refl _⟩) hP hD hS hA [0, 1, 2, 3, 4, 5] rfl (fun H locs hP hS => ?_)
    refine lv_if_eq (tgt := 17) hx hb dX1_number_5 (by decide) (fun c2 => ?_) (fun c2 => ?_)
    · replace hf := ob_pos c2 hf
      refine lv_bipush (v := (-9)) hx hb dX1_number_17 (by decide) ?_
      exact fin _ _ _ _ _ hf hP hD hS dX1_number_19
    · replace hf := ob_neg c2 hf
      refine lv_aload_n hx hb dX1_number_8 rfl (lv_at hl 0 rfl) ?_
      refine va_get (D := G.1) (ci := 1) (v := .ref a0.2.1) (C := RX1) (T := TX1) (N := 9) hx hb hts hinX1 hown hK hP 0 rfl rfl 0 (by decide) lk0 (fun _ h9 => h9) rfl dX1_number_9 ?_
      refine lv_iload_n hx hb dX1_number_12 rfl (lv_at hl 1 rfl) ?_
      obtain ⟨hg3, hf⟩ := ob_guard hf
      refine va_iald hx hb hK hP 1 0 rfl rfl hg3 dX1_number_13 ?_
      refine lv_goto (tgt := 19) hx hb dX1_number_14 (by decide) ?_
      exact fin _ _ _ _ _ hf hP hD hS dX1_number_19
  exact go _ _ hP hD hS _ hl
abbrev rm_X1_numbered : Room := { frames := 3, cells := 0, slots := 0, locals := 66 }
set_option maxHeartbeats 4000000 in
set_option maxRecDepth 100000 in
theorem c_X1_numbered (l : Launch) (G : zG) (a0 : AT_X1) (sz : Nat) (S0 : ST_X1) (p1 : Int32) (out : Int32) (hf : f_X1_numbered S0 p1 = some out) : Met l yX1_numbered wsX1_numbered rm_X1_numbered (PcM G (ce_X1 G.2.1 a0 S0) [.ref a0.1, .int p1] sz) (QRo G (ce_X1 G.2.1 a0 S0) out (va_A (ce_X1 G.2.1 a0 S0) sz)) 0 0 (va_A (ce_X1 G.2.1 a0 S0) sz) := by
  rw [f_X1_numbered] at hf
  refine Met.ofW (cc := cX1_numbered) (maxL := 3) (ret := (some .int)) (by decide) rfl ?_
  intro p e s m args below meth c s₁ B hml hv
  obtain ⟨hargs, hsz, hP, hK, hD0, hE⟩ := hv
  have hx := B.exec
  have hb := B.bytes
  have hr := B.returns
  have hts := atoms_spec (ws := wsX1_numbered) B.pre
  have hown : s.vm.findClass RX1 = some m.cls := findClass_of_methodNamed B.named
  have hlocks := B.notSynchronized
  subst hsz
  have hD := hD0.self (sz := s.heap.size)
  generalize hAe : va_A (ce_X1 G.2.1 a0 S0) s.heap.size = A at hD hE ⊢
  have hA : ∀ q : Nat, s.heap.size ≤ q → A q := fun q h => by rw [← hAe]; exact Or.inr h
  have hS : va_S A s.heap s.heap [] := va_S.rf
  have hl := lv_entry ([.ref a0.1, .int p1]) (n := 3) (Nat.le_of_ble_eq_true rfl)
  have hent : entryFrame m args 3 = F0 m 0 ((lg_sl ([.ref a0.1, .int p1]) ++ List.replicate (3 - (lg_sl ([.ref a0.1, .int p1])).length) Slot.unset).toArray) [] := by rw [hargs, lg_entry_eq]
  rw [hent]
  clear hent
  generalize (lg_sl ([.ref a0.1, .int p1]) ++ List.replicate (3 - (lg_sl ([.ref a0.1, .int p1])).length) Slot.unset).toArray = ls at hl ⊢
  have hl : lv_has ls 3 [(0, .ref a0.1), (1, .int p1)] := hl
  have lk0 := hts (Cond.fieldLink RX1 33 "EnginesOnList$Fleet" "size" "I") (List.mem_of_getElem? (i := 1) rfl)
  have hinX1 : ∀ w ∈ wsX10, w ∈ wsX1_numbered := by decide +kernel
  have fin : ∀ (pc : Nat) (v : Int32) (H : Heap) (locs : List Loc) (ls : Array Slot), some v = some out → va_P G.1 vwCl (ce_X1 G.2.1 a0 S0) H → va_D A (ce_X1 G.2.1 a0 S0) → va_S A s.heap H locs → decode cX1_numbered pc = .ok (.ireturn, 1) → W p l e (headSpec wsX1_numbered rm_X1_numbered).room s m args below meth c H locs 0 0 (MQ below (QRo G (ce_X1 G.2.1 a0 S0) out A) args s 0 0 A) (F0 m pc ls [.int v]) := fun pc v H locs ls ho hP hD hS hd => W.iret (v := v) hx hb hr (fun t ht hW => ⟨⟨v, (), rfl, Option.some.inj ho, by first | (rw [ht]; exact hP) | (dsimp only; rw [ht]; exact hP)⟩, hS.F ht⟩) hS.2.2 hd
  generalize MQ below (QRo G (ce_X1 G.2.1 a0 S0) out A) args s 0 0 A = Q at fin ⊢
  have blk2 : ∀ (fu2 : Nat), ∀ (v1 : Int32) (v2 : Int32), f_X1_numbered_b2 S0 fu2 v1 v2 = some out → ∀ (H : Heap) (locs : List Loc), va_P G.1 vwCl (ce_X1 G.2.1 a0 S0) H → va_D A (ce_X1 G.2.1 a0 S0) → va_S A s.heap H locs → ∀ (ls : Array Slot), lv_has ls 3 [(0, .ref a0.1), (1, .int v1), (2, .int v2)] → W p l e (headSpec wsX1_numbered rm_X1_numbered).room s m args below meth c H locs 0 0 Q (F0 m 2 ls []) := by
    intro fu2
    induction fu2 with
    | zero => intro v1 v2 hf; exact ob_none hf
    | succ fu2 ih2 =>
      intro v1 v2 hf H locs hP hD hS ls hl
      rw [f_X1_numbered_b2] at hf
      refine lv_iload_n hx hb dX1_numbered_2 rfl (lv_at hl 2 rfl) ?_
      refine lv_aload_n hx hb dX1_numbered_3 rfl (lv_at hl 0 rfl) ?_
      refine va_get (D := G.1) (ci := 1) (v := .int S0.2.2.2.2.2.1) (C := RX1) (T := TX1) (N := 9) hx hb hts hinX1 hown hK hP 0 rfl rfl 5 (by decide) lk0 (fun _ h9 => h9) rfl dX1_numbered_4 ?_
      refine lv_icmp_ge (tgt := 27) hx hb dX1_numbered_7 (by decide) (fun c1 => ?_) (fun c1 => ?_)
      · replace hf := ob_pos c1 hf
        refine lv_bipush (v := (-9)) hx hb dX1_numbered_27 (by decide) ?_
        exact fin _ _ _ _ _ hf hP hD hS dX1_numbered_29
      · replace hf := ob_neg c1 hf
        refine lv_aload_n hx hb dX1_numbered_10 rfl (lv_at hl 0 rfl) ?_
        refine lv_iload_n hx hb dX1_numbered_11 rfl (lv_at hl 2 rfl) ?_
        obtain ⟨r2, hr2, hf⟩ := ob_bind hf
        have hFc := va_free (wc := ce_X1 G.2.1 a0 S0) hD hS hA [0, 1, 2, 3, 4, 5] rfl
        refine zc_ro (va_runV (As := [.int v2]) (rest := []) ⟨hx, hb, hml, hown, hts⟩ (c_X1_number l G a0 H.size S0 v2 _ hr2) (cwV 1 hts gX1_numbered_X1_number rfl rfl rfl (by decide +kernel) ⟨Nat.le_of_ble_eq_true rfl, Nat.le_of_ble_eq_true rfl⟩) ⟨PcM.blind, va_recv hK hP (ci := 1) (q0 := 0) rfl rfl, PcM.ok hP hD hK hE hS hFc⟩ rfl rfl hl.1 rfl (lv_room (Nat.le_of_ble_eq_true rfl)) dX1_numbered_12 ⟨Nat.le_refl _, Nat.le_refl _⟩) hP hD hS hA [0, 1, 2, 3, 4, 5] rfl (fun H locs hP hS => ?_)
        refine lv_iload_n hx hb dX1_numbered_15 rfl (lv_at hl 1 rfl) ?_
        refine lv_icmp_ne (tgt := 21) hx hb dX1_numbered_16 (by decide) (fun c3 => ?_) (fun c3 => ?_)
        · replace hf := ob_neg c3 hf
          refine lv_iinc (v := v2 + 1) (lv' := [(2, .int (v2 + 1)), (0, .ref a0.1), (1, .int v1)]) hx hb dX1_numbered_21 hl (k := 2) rfl rfl (by decide) rfl (fun ls hl => ?_)
          refine lv_goto (tgt := 2) hx hb dX1_numbered_24 (by decide) ?_
          exact ih2 _ _ hf _ _ hP hD hS _ (lv_sub hl [1, 2, 0] rfl)
        · replace hf := ob_pos c3 hf
          refine lv_iload_n hx hb dX1_numbered_19 rfl (lv_at hl 2 rfl) ?_
          exact fin _ _ _ _ _ hf hP hD hS dX1_numbered_20
  have go : ∀ (H : Heap) (locs : List Loc), va_P G.1 vwCl (ce_X1 G.2.1 a0 S0) H → va_D A (ce_X1 G.2.1 a0 S0) → va_S A s.heap H locs → ∀ (ls : Array Slot), lv_has ls 3 [(0, .ref a0.1), (1, .int p1)] → W p l e (headSpec wsX1_numbered rm_X1_numbered).room s m args below meth c H locs 0 0 Q (F0 m 0 ls []) := by
    intro H locs hP hD hS ls hl
    refine lv_iconst (v := 0) hx hb dX1_numbered_0 (by decide) ?_
    refine lv_istore_n (lv' := [(2, .int 0), (0, .ref a0.1), (1, .int p1)]) hx hb dX1_numbered_1 rfl hl (by decide) rfl (fun ls hl => ?_)
    exact blk2 4096 _ _ hf _ _ hP hD hS _ (lv_sub hl [1, 2, 0] rfl)
  exact go _ _ hP hD hS _ hl
abbrev rm_X2_sign : Room := { frames := 1, cells := 0, slots := 0, locals := 24 }
set_option maxHeartbeats 4000000 in
set_option maxRecDepth 100000 in
theorem c_X2_sign (l : Launch) (G : zG) (a0 : AT_X2) (sz : Nat) (S0 : ST_X2) (p1 : Int32) (out : Int32) (hf : f_X2_sign S0 p1 = some out) : Met l yX2_sign wsX2_sign rm_X2_sign (PcM G (ce_X2 G.2.1 a0 S0) [.ref a0.1, .int p1] sz) (QRo G (ce_X2 G.2.1 a0 S0) out (va_A (ce_X2 G.2.1 a0 S0) sz)) 0 0 (va_A (ce_X2 G.2.1 a0 S0) sz) := by
  rw [f_X2_sign] at hf
  refine Met.ofW (cc := cX2_sign) (maxL := 2) (ret := (some .int)) (by decide) rfl ?_
  intro p e s m args below meth c s₁ B hml hv
  obtain ⟨hargs, hsz, hP, hK, hD0, hE⟩ := hv
  have hx := B.exec
  have hb := B.bytes
  have hr := B.returns
  have hts := atoms_spec (ws := wsX2_sign) B.pre
  have hown : s.vm.findClass RX2 = some m.cls := findClass_of_methodNamed B.named
  have hlocks := B.notSynchronized
  subst hsz
  have hD := hD0.self (sz := s.heap.size)
  generalize hAe : va_A (ce_X2 G.2.1 a0 S0) s.heap.size = A at hD hE ⊢
  have hA : ∀ q : Nat, s.heap.size ≤ q → A q := fun q h => by rw [← hAe]; exact Or.inr h
  have hS : va_S A s.heap s.heap [] := va_S.rf
  have hl := lv_entry ([.ref a0.1, .int p1]) (n := 2) (Nat.le_of_ble_eq_true rfl)
  have hent : entryFrame m args 2 = F0 m 0 ((lg_sl ([.ref a0.1, .int p1]) ++ List.replicate (2 - (lg_sl ([.ref a0.1, .int p1])).length) Slot.unset).toArray) [] := by rw [hargs, lg_entry_eq]
  rw [hent]
  clear hent
  generalize (lg_sl ([.ref a0.1, .int p1]) ++ List.replicate (2 - (lg_sl ([.ref a0.1, .int p1])).length) Slot.unset).toArray = ls at hl ⊢
  have hl : lv_has ls 2 [(0, .ref a0.1), (1, .int p1)] := hl
  have lk0 := hts (Cond.fieldLink RX2 15 "EnginesOnList$Letters" "size" "I") (List.mem_of_getElem? (i := 1) rfl)
  have lk1 := hts (Cond.fieldLink RX2 9 "EnginesOnList$Letters" "signs" "[I") (List.mem_of_getElem? (i := 2) rfl)
  have hinX2 : ∀ w ∈ wsX20, w ∈ wsX2_sign := by decide +kernel
  have fin : ∀ (pc : Nat) (v : Int32) (H : Heap) (locs : List Loc) (ls : Array Slot), some v = some out → va_P G.1 vwCl (ce_X2 G.2.1 a0 S0) H → va_D A (ce_X2 G.2.1 a0 S0) → va_S A s.heap H locs → decode cX2_sign pc = .ok (.ireturn, 1) → W p l e (headSpec wsX2_sign rm_X2_sign).room s m args below meth c H locs 0 0 (MQ below (QRo G (ce_X2 G.2.1 a0 S0) out A) args s 0 0 A) (F0 m pc ls [.int v]) := fun pc v H locs ls ho hP hD hS hd => W.iret (v := v) hx hb hr (fun t ht hW => ⟨⟨v, (), rfl, Option.some.inj ho, by first | (rw [ht]; exact hP) | (dsimp only; rw [ht]; exact hP)⟩, hS.F ht⟩) hS.2.2 hd
  generalize MQ below (QRo G (ce_X2 G.2.1 a0 S0) out A) args s 0 0 A = Q at fin ⊢
  have blk27 : f_X2_sign_b27 S0 = some out → ∀ (H : Heap) (locs : List Loc), va_P G.1 vwCl (ce_X2 G.2.1 a0 S0) H → va_D A (ce_X2 G.2.1 a0 S0) → va_S A s.heap H locs → ∀ (ls : Array Slot), lv_has ls 2 [] → W p l e (headSpec wsX2_sign rm_X2_sign).room s m args below meth c H locs 0 0 Q (F0 m 27 ls []) := by
    intro hf H locs hP hD hS ls hl
    rw [f_X2_sign_b27] at hf
    refine lv_iconst (v := (-1)) hx hb dX2_sign_27 (by decide) ?_
    exact fin _ _ _ _ _ hf hP hD hS dX2_sign_28
  have go : ∀ (H : Heap) (locs : List Loc), va_P G.1 vwCl (ce_X2 G.2.1 a0 S0) H → va_D A (ce_X2 G.2.1 a0 S0) → va_S A s.heap H locs → ∀ (ls : Array Slot), lv_has ls 2 [(0, .ref a0.1), (1, .int p1)] → W p l e (headSpec wsX2_sign rm_X2_sign).room s m args below meth c H locs 0 0 Q (F0 m 0 ls []) := by
    intro H locs hP hD hS ls hl
    refine lv_iload_n hx hb dX2_sign_0 rfl (lv_at hl 1 rfl) ?_
    refine lv_if_lt (tgt := 27) hx hb dX2_sign_1 (by decide) (fun c1 => ?_) (fun c1 => ?_)
    · replace hf := ob_pos c1 hf
      exact blk27  hf _ _ hP hD hS _ (lv_sub hl [] rfl)
    · replace hf := ob_neg c1 hf
      refine lv_iload_n hx hb dX2_sign_4 rfl (lv_at hl 1 rfl) ?_
      refine lv_aload_n hx hb dX2_sign_5 rfl (lv_at hl 0 rfl) ?_
      refine va_get (D := G.1) (ci := 2) (v := .int S0.2) (C := RX2) (T := TX2) (N := 2) hx hb hts hinX2 hown hK hP 0 rfl rfl 1 (by decide) lk0 (fun _ h9 => h9) rfl dX2_sign_6 ?_
      refine lv_icmp_ge (tgt := 27) hx hb dX2_sign_9 (by decide) (fun c2 => ?_) (fun c2 => ?_)
      · replace hf := ob_pos c2 hf
        exact blk27  hf _ _ hP hD hS _ (lv_sub hl [] rfl)
      · replace hf := ob_neg c2 hf
        refine lv_iload_n hx hb dX2_sign_12 rfl (lv_at hl 1 rfl) ?_
        refine lv_bipush (v := 64) hx hb dX2_sign_13 (by decide) ?_
        refine lv_icmp_ge (tgt := 27) hx hb dX2_sign_15 (by decide) (fun c3 => ?_) (fun c3 => ?_)
        · replace hf := ob_pos c3 hf
          exact blk27  hf _ _ hP hD hS _ (lv_sub hl [] rfl)
        · replace hf := ob_neg c3 hf
          refine lv_aload_n hx hb dX2_sign_18 rfl (lv_at hl 0 rfl) ?_
          refine va_get (D := G.1) (ci := 2) (v := .ref a0.2) (C := RX2) (T := TX2) (N := 2) hx hb hts hinX2 hown hK hP 0 rfl rfl 0 (by decide) lk1 (fun _ h9 => h9) rfl dX2_sign_19 ?_
          refine lv_iload_n hx hb dX2_sign_22 rfl (lv_at hl 1 rfl) ?_
          obtain ⟨hg4, hf⟩ := ob_guard hf
          refine va_iald hx hb hK hP 1 0 rfl rfl hg4 dX2_sign_23 ?_
          refine lv_goto (tgt := 28) hx hb dX2_sign_24 (by decide) ?_
          exact fin _ _ _ _ _ hf hP hD hS dX2_sign_28
  exact go _ _ hP hD hS _ hl
abbrev rm_X2_digit : Room := { frames := 2, cells := 0, slots := 0, locals := 45 }
set_option maxHeartbeats 4000000 in
set_option maxRecDepth 100000 in
theorem c_X2_digit (l : Launch) (G : zG) (a0 : AT_X2) (sz : Nat) (S0 : ST_X2) (p1 : Int32) (out : Int32) (hf : f_X2_digit S0 p1 = some out) : Met l yX2_digit wsX2_digit rm_X2_digit (PcM G (ce_X2 G.2.1 a0 S0) [.ref a0.1, .int p1] sz) (QRo G (ce_X2 G.2.1 a0 S0) out (va_A (ce_X2 G.2.1 a0 S0) sz)) 0 0 (va_A (ce_X2 G.2.1 a0 S0) sz) := by
  rw [f_X2_digit] at hf
  refine Met.ofW (cc := cX2_digit) (maxL := 2) (ret := (some .int)) (by decide) rfl ?_
  intro p e s m args below meth c s₁ B hml hv
  obtain ⟨hargs, hsz, hP, hK, hD0, hE⟩ := hv
  have hx := B.exec
  have hb := B.bytes
  have hr := B.returns
  have hts := atoms_spec (ws := wsX2_digit) B.pre
  have hown : s.vm.findClass RX2 = some m.cls := findClass_of_methodNamed B.named
  have hlocks := B.notSynchronized
  subst hsz
  have hD := hD0.self (sz := s.heap.size)
  generalize hAe : va_A (ce_X2 G.2.1 a0 S0) s.heap.size = A at hD hE ⊢
  have hA : ∀ q : Nat, s.heap.size ≤ q → A q := fun q h => by rw [← hAe]; exact Or.inr h
  have hS : va_S A s.heap s.heap [] := va_S.rf
  have hl := lv_entry ([.ref a0.1, .int p1]) (n := 2) (Nat.le_of_ble_eq_true rfl)
  have hent : entryFrame m args 2 = F0 m 0 ((lg_sl ([.ref a0.1, .int p1]) ++ List.replicate (2 - (lg_sl ([.ref a0.1, .int p1])).length) Slot.unset).toArray) [] := by rw [hargs, lg_entry_eq]
  rw [hent]
  clear hent
  generalize (lg_sl ([.ref a0.1, .int p1]) ++ List.replicate (2 - (lg_sl ([.ref a0.1, .int p1])).length) Slot.unset).toArray = ls at hl ⊢
  have hl : lv_has ls 2 [(0, .ref a0.1), (1, .int p1)] := hl
  have fin : ∀ (pc : Nat) (v : Int32) (H : Heap) (locs : List Loc) (ls : Array Slot), some v = some out → va_P G.1 vwCl (ce_X2 G.2.1 a0 S0) H → va_D A (ce_X2 G.2.1 a0 S0) → va_S A s.heap H locs → decode cX2_digit pc = .ok (.ireturn, 1) → W p l e (headSpec wsX2_digit rm_X2_digit).room s m args below meth c H locs 0 0 (MQ below (QRo G (ce_X2 G.2.1 a0 S0) out A) args s 0 0 A) (F0 m pc ls [.int v]) := fun pc v H locs ls ho hP hD hS hd => W.iret (v := v) hx hb hr (fun t ht hW => ⟨⟨v, (), rfl, Option.some.inj ho, by first | (rw [ht]; exact hP) | (dsimp only; rw [ht]; exact hP)⟩, hS.F ht⟩) hS.2.2 hd
  generalize MQ below (QRo G (ce_X2 G.2.1 a0 S0) out A) args s 0 0 A = Q at fin ⊢
  have go : ∀ (H : Heap) (locs : List Loc), va_P G.1 vwCl (ce_X2 G.2.1 a0 S0) H → va_D A (ce_X2 G.2.1 a0 S0) → va_S A s.heap H locs → ∀ (ls : Array Slot), lv_has ls 2 [(0, .ref a0.1), (1, .int p1)] → W p l e (headSpec wsX2_digit rm_X2_digit).room s m args below meth c H locs 0 0 Q (F0 m 0 ls []) := by
    intro H locs hP hD hS ls hl
    refine lv_aload_n hx hb dX2_digit_0 rfl (lv_at hl 0 rfl) ?_
    refine lv_iload_n hx hb dX2_digit_1 rfl (lv_at hl 1 rfl) ?_
    obtain ⟨r1, hr1, hf⟩ := ob_bind hf
    have hFc := va_free (wc := ce_X2 G.2.1 a0 S0) hD hS hA [0, 1] rfl
    refine zc_ro (va_runV (As := [.int p1]) (rest := []) ⟨hx, hb, hml, hown, hts⟩ (c_X2_sign l G a0 H.size S0 p1 _ hr1) (cwV 1 hts gX2_digit_X2_sign rfl rfl rfl (by decide +kernel) ⟨Nat.le_of_ble_eq_true rfl, Nat.le_of_ble_eq_true rfl⟩) ⟨PcM.blind, va_recv hK hP (ci := 2) (q0 := 0) rfl rfl, PcM.ok hP hD hK hE hS hFc⟩ rfl rfl hl.1 rfl (lv_room (Nat.le_of_ble_eq_true rfl)) dX2_digit_2 ⟨Nat.le_refl _, Nat.le_refl _⟩) hP hD hS hA [0, 1] rfl (fun H locs hP hS => ?_)
    refine lv_bipush (v := 48) hx hb dX2_digit_5 (by decide) ?_
    refine lv_isub hx hb dX2_digit_7 ?_
    exact fin _ _ _ _ _ hf hP hD hS dX2_digit_8
  exact go _ _ hP hD hS _ hl
abbrev rm_X2_number : Room := { frames := 3, cells := 0, slots := 0, locals := 66 }
set_option maxHeartbeats 4000000 in
set_option maxRecDepth 100000 in
theorem c_X2_number (l : Launch) (G : zG) (a0 : AT_X2) (sz : Nat) (S0 : ST_X2) (p1 : Int32) (out : Int32) (hf : f_X2_number S0 p1 = some out) : Met l yX2_number wsX2_number rm_X2_number (PcM G (ce_X2 G.2.1 a0 S0) [.ref a0.1, .int p1] sz) (QRo G (ce_X2 G.2.1 a0 S0) out (va_A (ce_X2 G.2.1 a0 S0) sz)) 0 0 (va_A (ce_X2 G.2.1 a0 S0) sz) := by
  rw [f_X2_number] at hf
  refine Met.ofW (cc := cX2_number) (maxL := 2) (ret := (some .int)) (by decide) rfl ?_
  intro p e s m args below meth c s₁ B hml hv
  obtain ⟨hargs, hsz, hP, hK, hD0, hE⟩ := hv
  have hx := B.exec
  have hb := B.bytes
  have hr := B.returns
  have hts := atoms_spec (ws := wsX2_number) B.pre
  have hown : s.vm.findClass RX2 = some m.cls := findClass_of_methodNamed B.named
  have hlocks := B.notSynchronized
  subst hsz
  have hD := hD0.self (sz := s.heap.size)
  generalize hAe : va_A (ce_X2 G.2.1 a0 S0) s.heap.size = A at hD hE ⊢
  have hA : ∀ q : Nat, s.heap.size ≤ q → A q := fun q h => by rw [← hAe]; exact Or.inr h
  have hS : va_S A s.heap s.heap [] := va_S.rf
  have hl := lv_entry ([.ref a0.1, .int p1]) (n := 2) (Nat.le_of_ble_eq_true rfl)
  have hent : entryFrame m args 2 = F0 m 0 ((lg_sl ([.ref a0.1, .int p1]) ++ List.replicate (2 - (lg_sl ([.ref a0.1, .int p1])).length) Slot.unset).toArray) [] := by rw [hargs, lg_entry_eq]
  rw [hent]
  clear hent
  generalize (lg_sl ([.ref a0.1, .int p1]) ++ List.replicate (2 - (lg_sl ([.ref a0.1, .int p1])).length) Slot.unset).toArray = ls at hl ⊢
  have hl : lv_has ls 2 [(0, .ref a0.1), (1, .int p1)] := hl
  have fin : ∀ (pc : Nat) (v : Int32) (H : Heap) (locs : List Loc) (ls : Array Slot), some v = some out → va_P G.1 vwCl (ce_X2 G.2.1 a0 S0) H → va_D A (ce_X2 G.2.1 a0 S0) → va_S A s.heap H locs → decode cX2_number pc = .ok (.ireturn, 1) → W p l e (headSpec wsX2_number rm_X2_number).room s m args below meth c H locs 0 0 (MQ below (QRo G (ce_X2 G.2.1 a0 S0) out A) args s 0 0 A) (F0 m pc ls [.int v]) := fun pc v H locs ls ho hP hD hS hd => W.iret (v := v) hx hb hr (fun t ht hW => ⟨⟨v, (), rfl, Option.some.inj ho, by first | (rw [ht]; exact hP) | (dsimp only; rw [ht]; exact hP)⟩, hS.F ht⟩) hS.2.2 hd
  generalize MQ below (QRo G (ce_X2 G.2.1 a0 S0) out A) args s 0 0 A = Q at fin ⊢
  have go : ∀ (H : Heap) (locs : List Loc), va_P G.1 vwCl (ce_X2 G.2.1 a0 S0) H → va_D A (ce_X2 G.2.1 a0 S0) → va_S A s.heap H locs → ∀ (ls : Array Slot), lv_has ls 2 [(0, .ref a0.1), (1, .int p1)] → W p l e (headSpec wsX2_number rm_X2_number).room s m args below meth c H locs 0 0 Q (F0 m 0 ls []) := by
    intro H locs hP hD hS ls hl
    refine lv_bipush (v := 10) hx hb dX2_number_0 (by decide) ?_
    refine lv_aload_n hx hb dX2_number_2 rfl (lv_at hl 0 rfl) ?_
    refine lv_iload_n hx hb dX2_number_3 rfl (lv_at hl 1 rfl) ?_
    obtain ⟨r1, hr1, hf⟩ := ob_bind hf
    have hFc := va_free (wc := ce_X2 G.2.1 a0 S0) hD hS hA [0, 1] rfl
    refine zc_ro (va_runV (As := [.int p1]) (rest := [.int 10]) ⟨hx, hb, hml, hown, hts⟩ (c_X2_digit l G a0 H.size S0 p1 _ hr1) (cwV 1 hts gX2_number_X2_digit rfl rfl rfl (by decide +kernel) ⟨Nat.le_of_ble_eq_true rfl, Nat.le_of_ble_eq_true rfl⟩) ⟨PcM.blind, va_recv hK hP (ci := 2) (q0 := 0) rfl rfl, PcM.ok hP hD hK hE hS hFc⟩ rfl rfl hl.1 rfl (lv_room (Nat.le_of_ble_eq_true rfl)) dX2_number_4 ⟨Nat.le_refl _, Nat.le_refl _⟩) hP hD hS hA [0, 1] rfl (fun H locs hP hS => ?_)
    refine lv_imul hx hb dX2_number_7 ?_
    refine lv_aload_n hx hb dX2_number_8 rfl (lv_at hl 0 rfl) ?_
    refine lv_iload_n hx hb dX2_number_9 rfl (lv_at hl 1 rfl) ?_
    refine lv_iconst (v := 1) hx hb dX2_number_10 (by decide) ?_
    refine lv_iadd hx hb dX2_number_11 ?_
    obtain ⟨r2, hr2, hf⟩ := ob_bind hf
    have hFc := va_free (wc := ce_X2 G.2.1 a0 S0) hD hS hA [0, 1] rfl
    refine zc_ro (va_runV (As := [.int (p1 + 1)]) (rest := [.int (10 * r1)]) ⟨hx, hb, hml, hown, hts⟩ (c_X2_digit l G a0 H.size S0 (p1 + 1) _ hr2) (cwV 1 hts gX2_number_X2_digit rfl rfl rfl (by decide +kernel) ⟨Nat.le_of_ble_eq_true rfl, Nat.le_of_ble_eq_true rfl⟩) ⟨PcM.blind, va_recv hK hP (ci := 2) (q0 := 0) rfl rfl, PcM.ok hP hD hK hE hS hFc⟩ rfl rfl hl.1 rfl (lv_room (Nat.le_of_ble_eq_true rfl)) dX2_number_12 ⟨Nat.le_refl _, Nat.le_refl _⟩) hP hD hS hA [0, 1] rfl (fun H locs hP hS => ?_)
    refine lv_iadd hx hb dX2_number_15 ?_
    exact fin _ _ _ _ _ hf hP hD hS dX2_number_16
  exact go _ _ hP hD hS _ hl
abbrev rm_X5_isPlace : Room := { frames := 1, cells := 0, slots := 0, locals := 24 }
set_option maxHeartbeats 4000000 in
set_option maxRecDepth 100000 in
theorem c_X5_isPlace (l : Launch) (G : zG) (sz : Nat) (p0 : Int32) (out : Int32) (hf : f_X5_isPlace p0 = some out) : Met l yX5_isPlace wsX5_isPlace rm_X5_isPlace (PcM G (([] : va_W)) [.int p0] sz) (QRo G (([] : va_W)) out (va_A (([] : va_W)) sz)) 0 0 (va_A (([] : va_W)) sz) := by
  rw [f_X5_isPlace] at hf
  refine Met.ofW (cc := cX5_isPlace) (maxL := 1) (ret := (some .boolean)) (by decide) rfl ?_
  intro p e s m args below meth c s₁ B hml hv
  obtain ⟨hargs, hsz, hP, hK, hD0, hE⟩ := hv
  have hx := B.exec
  have hb := B.bytes
  have hr := B.returns
  have hts := atoms_spec (ws := wsX5_isPlace) B.pre
  have hown : s.vm.findClass RX5 = some m.cls := findClass_of_methodNamed B.named
  have hlocks := B.notSynchronized
  subst hsz
  have hD := hD0.self (sz := s.heap.size)
  generalize hAe : va_A (([] : va_W)) s.heap.size = A at hD hE ⊢
  have hA : ∀ q : Nat, s.heap.size ≤ q → A q := fun q h => by rw [← hAe]; exact Or.inr h
  have hS : va_S A s.heap s.heap [] := va_S.rf
  have hl := lv_entry ([.int p0]) (n := 1) (Nat.le_of_ble_eq_true rfl)
  have hent : entryFrame m args 1 = F0 m 0 ((lg_sl ([.int p0]) ++ List.replicate (1 - (lg_sl ([.int p0])).length) Slot.unset).toArray) [] := by rw [hargs, lg_entry_eq]
  rw [hent]
  clear hent
  generalize (lg_sl ([.int p0]) ++ List.replicate (1 - (lg_sl ([.int p0])).length) Slot.unset).toArray = ls at hl ⊢
  have hl : lv_has ls 1 [(0, .int p0)] := hl
  have fin : ∀ (pc : Nat) (v : Int32) (H : Heap) (locs : List Loc) (ls : Array Slot), some v = some out → narrow .boolean (.int v) = .int v → va_P G.1 vwCl (([] : va_W)) H → va_D A (([] : va_W)) → va_S A s.heap H locs → decode cX5_isPlace pc = .ok (.ireturn, 1) → W p l e (headSpec wsX5_isPlace rm_X5_isPlace).room s m args below meth c H locs 0 0 (MQ below (QRo G (([] : va_W)) out A) args s 0 0 A) (F0 m pc ls [.int v]) := fun pc v H locs ls ho hn hP hD hS hd => W.zret (v := v) hx hb hr hn (fun t ht hW => ⟨⟨v, (), rfl, Option.some.inj ho, by first | (rw [ht]; exact hP) | (dsimp only; rw [ht]; exact hP)⟩, hS.F ht⟩) hS.2.2 hd
  generalize MQ below (QRo G (([] : va_W)) out A) args s 0 0 A = Q at fin ⊢
  have blk13 : f_X5_isPlace_b13 = some out → ∀ (H : Heap) (locs : List Loc), va_P G.1 vwCl (([] : va_W)) H → va_D A (([] : va_W)) → va_S A s.heap H locs → ∀ (ls : Array Slot), lv_has ls 1 [] → W p l e (headSpec wsX5_isPlace rm_X5_isPlace).room s m args below meth c H locs 0 0 Q (F0 m 13 ls []) := by
    intro hf H locs hP hD hS ls hl
    rw [f_X5_isPlace_b13] at hf
    refine lv_iconst (v := 0) hx hb dX5_isPlace_13 (by decide) ?_
    exact fin _ _ _ _ _ hf rfl hP hD hS dX5_isPlace_14
  have go : ∀ (H : Heap) (locs : List Loc), va_P G.1 vwCl (([] : va_W)) H → va_D A (([] : va_W)) → va_S A s.heap H locs → ∀ (ls : Array Slot), lv_has ls 1 [(0, .int p0)] → W p l e (headSpec wsX5_isPlace rm_X5_isPlace).room s m args below meth c H locs 0 0 Q (F0 m 0 ls []) := by
    intro H locs hP hD hS ls hl
    refine lv_iload_n hx hb dX5_isPlace_0 rfl (lv_at hl 0 rfl) ?_
    refine lv_if_lt (tgt := 13) hx hb dX5_isPlace_1 (by decide) (fun c1 => ?_) (fun c1 => ?_)
    · replace hf := ob_pos c1 hf
      exact blk13  hf _ _ hP hD hS _ (lv_sub hl [] rfl)
    · replace hf := ob_neg c1 hf
      refine lv_iload_n hx hb dX5_isPlace_4 rfl (lv_at hl 0 rfl) ?_
      refine lv_iconst (v := 5) hx hb dX5_isPlace_5 (by decide) ?_
      refine lv_icmp_ge (tgt := 13) hx hb dX5_isPlace_6 (by decide) (fun c2 => ?_) (fun c2 => ?_)
      · replace hf := ob_pos c2 hf
        exact blk13  hf _ _ hP hD hS _ (lv_sub hl [] rfl)
      · replace hf := ob_neg c2 hf
        refine lv_iconst (v := 1) hx hb dX5_isPlace_9 (by decide) ?_
        refine lv_goto (tgt := 14) hx hb dX5_isPlace_10 (by decide) ?_
        exact fin _ _ _ _ _ hf rfl hP hD hS dX5_isPlace_14
  exact go _ _ hP hD hS _ hl
abbrev rm_J0_isLatin1_aae02 : Room := { frames := 1, cells := 0, slots := 0, locals := 24 }
set_option maxHeartbeats 4000000 in
set_option maxRecDepth 100000 in
theorem c_J0_isLatin1_aae02 (l : Launch) (G : zG) (sz : Nat) (p0 : Nat) (out : Int32) (hf : f_J0_isLatin1_aae02 p0 = some out) : Met l yJ0_isLatin1_aae02 wsJ0_isLatin1_aae02 rm_J0_isLatin1_aae02 (PcM G (([] : va_W)) [.ref (G.2.2.1 p0)] sz) (QRo G (([] : va_W)) out (va_A (([] : va_W)) sz)) 0 0 (va_A (([] : va_W)) sz) := by
  rw [f_J0_isLatin1_aae02] at hf
  refine Met.ofW (cc := cJ0_isLatin1_aae02) (maxL := 1) (ret := (some .boolean)) (by decide) rfl ?_
  intro p e s m args below meth c s₁ B hml hv
  obtain ⟨hargs, hsz, hP, hK, hD0, hE⟩ := hv
  have hx := B.exec
  have hb := B.bytes
  have hr := B.returns
  have hts := atoms_spec (ws := wsJ0_isLatin1_aae02) B.pre
  have hown : s.vm.findClass RJ0 = some m.cls := findClass_of_methodNamed B.named
  have hlocks := B.notSynchronized
  subst hsz
  have hD := hD0.self (sz := s.heap.size)
  generalize hAe : va_A (([] : va_W)) s.heap.size = A at hD hE ⊢
  have hA : ∀ q : Nat, s.heap.size ≤ q → A q := fun q h => by rw [← hAe]; exact Or.inr h
  have hS : va_S A s.heap s.heap [] := va_S.rf
  have hl := lv_entry ([.ref (G.2.2.1 p0)]) (n := 1) (Nat.le_of_ble_eq_true rfl)
  have hent : entryFrame m args 1 = F0 m 0 ((lg_sl ([.ref (G.2.2.1 p0)]) ++ List.replicate (1 - (lg_sl ([.ref (G.2.2.1 p0)])).length) Slot.unset).toArray) [] := by rw [hargs, lg_entry_eq]
  rw [hent]
  clear hent
  generalize (lg_sl ([.ref (G.2.2.1 p0)]) ++ List.replicate (1 - (lg_sl ([.ref (G.2.2.1 p0)])).length) Slot.unset).toArray = ls at hl ⊢
  have hl : lv_has ls 1 [(0, .ref (G.2.2.1 p0))] := hl
  have lk0 := hts (Cond.fieldLink RJ0 38 "java/lang/String" "COMPACT_STRINGS" "Z") (List.mem_of_getElem? (i := 1) rfl)
  have lk1 := hts (Cond.fieldLink RJ0 15 "java/lang/String" "coder" "B") (List.mem_of_getElem? (i := 2) rfl)
  have fin : ∀ (pc : Nat) (v : Int32) (H : Heap) (locs : List Loc) (ls : Array Slot), some v = some out → narrow .boolean (.int v) = .int v → va_P G.1 vwCl (([] : va_W)) H → va_D A (([] : va_W)) → va_S A s.heap H locs → decode cJ0_isLatin1_aae02 pc = .ok (.ireturn, 1) → W p l e (headSpec wsJ0_isLatin1_aae02 rm_J0_isLatin1_aae02).room s m args below meth c H locs 0 0 (MQ below (QRo G (([] : va_W)) out A) args s 0 0 A) (F0 m pc ls [.int v]) := fun pc v H locs ls ho hn hP hD hS hd => W.zret (v := v) hx hb hr hn (fun t ht hW => ⟨⟨v, (), rfl, Option.some.inj ho, by first | (rw [ht]; exact hP) | (dsimp only; rw [ht]; exact hP)⟩, hS.F ht⟩) hS.2.2 hd
  generalize MQ below (QRo G (([] : va_W)) out A) args s 0 0 A = Q at fin ⊢
  obtain ⟨hi_p0, hf⟩ := ob_guard hf
  have blk17 : f_J0_isLatin1_aae02_b17 p0 = some out → ∀ (H : Heap) (locs : List Loc), va_P G.1 vwCl (([] : va_W)) H → va_D A (([] : va_W)) → va_S A s.heap H locs → ∀ (ls : Array Slot), lv_has ls 1 [] → W p l e (headSpec wsJ0_isLatin1_aae02 rm_J0_isLatin1_aae02).room s m args below meth c H locs 0 0 Q (F0 m 17 ls []) := by
    intro hf H locs hP hD hS ls hl
    rw [f_J0_isLatin1_aae02_b17] at hf
    refine lv_iconst (v := 0) hx hb dJ0_isLatin1_aae02_17 (by decide) ?_
    exact fin _ _ _ _ _ hf rfl hP hD hS dJ0_isLatin1_aae02_18
  have go : ∀ (H : Heap) (locs : List Loc), va_P G.1 vwCl (([] : va_W)) H → va_D A (([] : va_W)) → va_S A s.heap H locs → ∀ (ls : Array Slot), lv_has ls 1 [(0, .ref (G.2.2.1 p0))] → W p l e (headSpec wsJ0_isLatin1_aae02 rm_J0_isLatin1_aae02).room s m args below meth c H locs 0 0 Q (F0 m 0 ls []) := by
    intro H locs hP hD hS ls hl
    refine va_gets hx hb hE.2.2.1 hS hown lk0 (fun _ h9 => h9) dJ0_isLatin1_aae02_0 ?_
    refine lv_if_eq (tgt := 17) hx hb dJ0_isLatin1_aae02_3 (by decide) (fun c1 => ?_) (fun c1 => ?_)
    · replace hf := ob_pos c1 hf
      exact blk17  hf _ _ hP hD hS _ (lv_sub hl [] rfl)
    · replace hf := ob_neg c1 hf
      refine lv_aload_n hx hb dJ0_isLatin1_aae02_6 rfl (lv_at hl 0 rfl) ?_
      refine vk_getf hx hb ((hE.2.1.1 _ hi_p0).2.1) hS hown lk1 (fun _ h9 => h9) dJ0_isLatin1_aae02_7 ?_
      refine lv_if_ne (tgt := 17) hx hb dJ0_isLatin1_aae02_10 (by decide) (fun c2 => ?_) (fun c2 => ?_)
      · replace hf := ob_neg c2 hf
        exact blk17  hf _ _ hP hD hS _ (lv_sub hl [] rfl)
      · replace hf := ob_pos c2 hf
        refine lv_iconst (v := 1) hx hb dJ0_isLatin1_aae02_13 (by decide) ?_
        refine lv_goto (tgt := 18) hx hb dJ0_isLatin1_aae02_14 (by decide) ?_
        exact fin _ _ _ _ _ hf rfl hP hD hS dJ0_isLatin1_aae02_18
  exact go _ _ hP hD hS _ hl
abbrev rm_J0_coder_7d493 : Room := { frames := 1, cells := 0, slots := 0, locals := 24 }
set_option maxHeartbeats 4000000 in
set_option maxRecDepth 100000 in
theorem c_J0_coder_7d493 (l : Launch) (G : zG) (sz : Nat) (p0 : Nat) (out : Int32) (hf : f_J0_coder_7d493 p0 = some out) : Met l yJ0_coder_7d493 wsJ0_coder_7d493 rm_J0_coder_7d493 (PcM G (([] : va_W)) [.ref (G.2.2.1 p0)] sz) (QRo G (([] : va_W)) out (va_A (([] : va_W)) sz)) 0 0 (va_A (([] : va_W)) sz) := by
  rw [f_J0_coder_7d493] at hf
  refine Met.ofW (cc := cJ0_coder_7d493) (maxL := 1) (ret := (some .byte)) (by decide) rfl ?_
  intro p e s m args below meth c s₁ B hml hv
  obtain ⟨hargs, hsz, hP, hK, hD0, hE⟩ := hv
  have hx := B.exec
  have hb := B.bytes
  have hr := B.returns
  have hts := atoms_spec (ws := wsJ0_coder_7d493) B.pre
  have hown : s.vm.findClass RJ0 = some m.cls := findClass_of_methodNamed B.named
  have hlocks := B.notSynchronized
  subst hsz
  have hD := hD0.self (sz := s.heap.size)
  generalize hAe : va_A (([] : va_W)) s.heap.size = A at hD hE ⊢
  have hA : ∀ q : Nat, s.heap.size ≤ q → A q := fun q h => by rw [← hAe]; exact Or.inr h
  have hS : va_S A s.heap s.heap [] := va_S.rf
  have hl := lv_entry ([.ref (G.2.2.1 p0)]) (n := 1) (Nat.le_of_ble_eq_true rfl)
  have hent : entryFrame m args 1 = F0 m 0 ((lg_sl ([.ref (G.2.2.1 p0)]) ++ List.replicate (1 - (lg_sl ([.ref (G.2.2.1 p0)])).length) Slot.unset).toArray) [] := by rw [hargs, lg_entry_eq]
  rw [hent]
  clear hent
  generalize (lg_sl ([.ref (G.2.2.1 p0)]) ++ List.replicate (1 - (lg_sl ([.ref (G.2.2.1 p0)])).length) Slot.unset).toArray = ls at hl ⊢
  have hl : lv_has ls 1 [(0, .ref (G.2.2.1 p0))] := hl
  have lk0 := hts (Cond.fieldLink RJ0 38 "java/lang/String" "COMPACT_STRINGS" "Z") (List.mem_of_getElem? (i := 1) rfl)
  have lk1 := hts (Cond.fieldLink RJ0 15 "java/lang/String" "coder" "B") (List.mem_of_getElem? (i := 2) rfl)
  have fin : ∀ (pc : Nat) (v : Int32) (H : Heap) (locs : List Loc) (ls : Array Slot), some v = some out → narrow .byte (.int v) = .int v → va_P G.1 vwCl (([] : va_W)) H → va_D A (([] : va_W)) → va_S A s.heap H locs → decode cJ0_coder_7d493 pc = .ok (.ireturn, 1) → W p l e (headSpec wsJ0_coder_7d493 rm_J0_coder_7d493).room s m args below meth c H locs 0 0 (MQ below (QRo G (([] : va_W)) out A) args s 0 0 A) (F0 m pc ls [.int v]) := fun pc v H locs ls ho hn hP hD hS hd => W.zret (v := v) hx hb hr hn (fun t ht hW => ⟨⟨v, (), rfl, Option.some.inj ho, by first | (rw [ht]; exact hP) | (dsimp only; rw [ht]; exact hP)⟩, hS.F ht⟩) hS.2.2 hd
  generalize MQ below (QRo G (([] : va_W)) out A) args s 0 0 A = Q at fin ⊢
  obtain ⟨hi_p0, hf⟩ := ob_guard hf
  have go : ∀ (H : Heap) (locs : List Loc), va_P G.1 vwCl (([] : va_W)) H → va_D A (([] : va_W)) → va_S A s.heap H locs → ∀ (ls : Array Slot), lv_has ls 1 [(0, .ref (G.2.2.1 p0))] → W p l e (headSpec wsJ0_coder_7d493 rm_J0_coder_7d493).room s m args below meth c H locs 0 0 Q (F0 m 0 ls []) := by
    intro H locs hP hD hS ls hl
    refine va_gets hx hb hE.2.2.1 hS hown lk0 (fun _ h9 => h9) dJ0_coder_7d493_0 ?_
    refine lv_if_eq (tgt := 13) hx hb dJ0_coder_7d493_3 (by decide) (fun c1 => ?_) (fun c1 => ?_)
    · replace hf := ob_pos c1 hf
      refine lv_iconst (v := 1) hx hb dJ0_coder_7d493_13 (by decide) ?_
      exact fin _ _ _ _ _ hf rfl hP hD hS dJ0_coder_7d493_14
    · replace hf := ob_neg c1 hf
      refine lv_aload_n hx hb dJ0_coder_7d493_6 rfl (lv_at hl 0 rfl) ?_
      refine vk_getf hx hb ((hE.2.1.1 _ hi_p0).2.1) hS hown lk1 (fun _ h9 => h9) dJ0_coder_7d493_7 ?_
      refine lv_goto (tgt := 14) hx hb dJ0_coder_7d493_10 (by decide) ?_
      exact fin _ _ _ _ _ hf rfl hP hD hS dJ0_coder_7d493_14
  exact go _ _ hP hD hS _ hl
abbrev rm_J0_length_8abf5 : Room := { frames := 2, cells := 0, slots := 0, locals := 44 }
set_option maxHeartbeats 4000000 in
set_option maxRecDepth 100000 in
theorem c_J0_length_8abf5 (l : Launch) (G : zG) (sz : Nat) (p0 : Nat) (out : Int32) (hf : f_J0_length_8abf5 p0 = some out) : Met l yJ0_length_8abf5 wsJ0_length_8abf5 rm_J0_length_8abf5 (PcM G (([] : va_W)) [.ref (G.2.2.1 p0)] sz) (QRo G (([] : va_W)) out (va_A (([] : va_W)) sz)) 0 0 (va_A (([] : va_W)) sz) := by
  rw [f_J0_length_8abf5] at hf
  refine Met.ofW (cc := cJ0_length_8abf5) (maxL := 1) (ret := (some .int)) (by decide) rfl ?_
  intro p e s m args below meth c s₁ B hml hv
  obtain ⟨hargs, hsz, hP, hK, hD0, hE⟩ := hv
  have hx := B.exec
  have hb := B.bytes
  have hr := B.returns
  have hts := atoms_spec (ws := wsJ0_length_8abf5) B.pre
  have hown : s.vm.findClass RJ0 = some m.cls := findClass_of_methodNamed B.named
  have hlocks := B.notSynchronized
  subst hsz
  have hD := hD0.self (sz := s.heap.size)
  generalize hAe : va_A (([] : va_W)) s.heap.size = A at hD hE ⊢
  have hA : ∀ q : Nat, s.heap.size ≤ q → A q := fun q h => by rw [← hAe]; exact Or.inr h
  have hS : va_S A s.heap s.heap [] := va_S.rf
  have hl := lv_entry ([.ref (G.2.2.1 p0)]) (n := 1) (Nat.le_of_ble_eq_true rfl)
  have hent : entryFrame m args 1 = F0 m 0 ((lg_sl ([.ref (G.2.2.1 p0)]) ++ List.replicate (1 - (lg_sl ([.ref (G.2.2.1 p0)])).length) Slot.unset).toArray) [] := by rw [hargs, lg_entry_eq]
  rw [hent]
  clear hent
  generalize (lg_sl ([.ref (G.2.2.1 p0)]) ++ List.replicate (1 - (lg_sl ([.ref (G.2.2.1 p0)])).length) Slot.unset).toArray = ls at hl ⊢
  have hl : lv_has ls 1 [(0, .ref (G.2.2.1 p0))] := hl
  have lk0 := hts (Cond.fieldLink RJ0 9 "java/lang/String" "value" "[B") (List.mem_of_getElem? (i := 1) rfl)
  have fin : ∀ (pc : Nat) (v : Int32) (H : Heap) (locs : List Loc) (ls : Array Slot), some v = some out → va_P G.1 vwCl (([] : va_W)) H → va_D A (([] : va_W)) → va_S A s.heap H locs → decode cJ0_length_8abf5 pc = .ok (.ireturn, 1) → W p l e (headSpec wsJ0_length_8abf5 rm_J0_length_8abf5).room s m args below meth c H locs 0 0 (MQ below (QRo G (([] : va_W)) out A) args s 0 0 A) (F0 m pc ls [.int v]) := fun pc v H locs ls ho hP hD hS hd => W.iret (v := v) hx hb hr (fun t ht hW => ⟨⟨v, (), rfl, Option.some.inj ho, by first | (rw [ht]; exact hP) | (dsimp only; rw [ht]; exact hP)⟩, hS.F ht⟩) hS.2.2 hd
  generalize MQ below (QRo G (([] : va_W)) out A) args s 0 0 A = Q at fin ⊢
  obtain ⟨hi_p0, hf⟩ := ob_guard hf
  have go : ∀ (H : Heap) (locs : List Loc), va_P G.1 vwCl (([] : va_W)) H → va_D A (([] : va_W)) → va_S A s.heap H locs → ∀ (ls : Array Slot), lv_has ls 1 [(0, .ref (G.2.2.1 p0))] → W p l e (headSpec wsJ0_length_8abf5 rm_J0_length_8abf5).room s m args below meth c H locs 0 0 Q (F0 m 0 ls []) := by
    intro H locs hP hD hS ls hl
    refine lv_aload_n hx hb dJ0_length_8abf5_0 rfl (lv_at hl 0 rfl) ?_
    refine vk_getf hx hb ((hE.2.1.1 _ hi_p0).2.2.1) hS hown lk0 (fun _ h9 => h9) dJ0_length_8abf5_1 ?_
    refine va_tlen hx hb ((hE.2.1.1 _ hi_p0).2.2.2) hS (v := Int32.ofNat (lenS.getD p0 0)) rfl dJ0_length_8abf5_4 ?_
    refine lv_aload_n hx hb dJ0_length_8abf5_5 rfl (lv_at hl 0 rfl) ?_
    obtain ⟨r1, hr1, hf⟩ := ob_bind hf
    have hFc := va_free (wc := ([] : va_W)) hD hS hA [] rfl
    refine zc_ro (va_runV (As := []) (rest := [.int (Int32.ofNat (lenS.getD p0 0))]) ⟨hx, hb, hml, hown, hts⟩ (c_J0_coder_7d493 l G H.size p0 _ hr1) (cwV 0 hts gJ0_length_8abf5_J0_coder_7d493 rfl rfl rfl (by decide +kernel) ⟨Nat.le_of_ble_eq_true rfl, Nat.le_of_ble_eq_true rfl⟩) ⟨PcM.blind, vk_recv hE.2.1 hi_p0 hS, PcM.ok hP hD hK hE hS hFc⟩ rfl rfl hl.1 rfl (lv_room (Nat.le_of_ble_eq_true rfl)) dJ0_length_8abf5_6 ⟨Nat.le_refl _, Nat.le_refl _⟩) hP hD hS hA [] rfl (fun H locs hP hS => ?_)
    refine lv_ishr hx hb dJ0_length_8abf5_9 ?_
    exact fin _ _ _ _ _ hf hP hD hS dJ0_length_8abf5_10
  exact go _ _ hP hD hS _ hl
abbrev rm_J1_canEncode_9a6ad : Room := { frames := 1, cells := 0, slots := 0, locals := 24 }
set_option maxHeartbeats 4000000 in
set_option maxRecDepth 100000 in
theorem c_J1_canEncode_9a6ad (l : Launch) (G : zG) (sz : Nat) (p0 : Int32) (out : Int32) (hf : f_J1_canEncode_9a6ad p0 = some out) : Met l yJ1_canEncode_9a6ad wsJ1_canEncode_9a6ad rm_J1_canEncode_9a6ad (PcM G (([] : va_W)) [.int p0] sz) (QRo G (([] : va_W)) out (va_A (([] : va_W)) sz)) 0 0 (va_A (([] : va_W)) sz) := by
  rw [f_J1_canEncode_9a6ad] at hf
  refine Met.ofW (cc := cJ1_canEncode_9a6ad) (maxL := 1) (ret := (some .boolean)) (by decide) rfl ?_
  intro p e s m args below meth c s₁ B hml hv
  obtain ⟨hargs, hsz, hP, hK, hD0, hE⟩ := hv
  have hx := B.exec
  have hb := B.bytes
  have hr := B.returns
  have hts := atoms_spec (ws := wsJ1_canEncode_9a6ad) B.pre
  have hown : s.vm.findClass RJ1 = some m.cls := findClass_of_methodNamed B.named
  have hlocks := B.notSynchronized
  subst hsz
  have hD := hD0.self (sz := s.heap.size)
  generalize hAe : va_A (([] : va_W)) s.heap.size = A at hD hE ⊢
  have hA : ∀ q : Nat, s.heap.size ≤ q → A q := fun q h => by rw [← hAe]; exact Or.inr h
  have hS : va_S A s.heap s.heap [] := va_S.rf
  have hl := lv_entry ([.int p0]) (n := 1) (Nat.le_of_ble_eq_true rfl)
  have hent : entryFrame m args 1 = F0 m 0 ((lg_sl ([.int p0]) ++ List.replicate (1 - (lg_sl ([.int p0])).length) Slot.unset).toArray) [] := by rw [hargs, lg_entry_eq]
  rw [hent]
  clear hent
  generalize (lg_sl ([.int p0]) ++ List.replicate (1 - (lg_sl ([.int p0])).length) Slot.unset).toArray = ls at hl ⊢
  have hl : lv_has ls 1 [(0, .int p0)] := hl
  have fin : ∀ (pc : Nat) (v : Int32) (H : Heap) (locs : List Loc) (ls : Array Slot), some v = some out → narrow .boolean (.int v) = .int v → va_P G.1 vwCl (([] : va_W)) H → va_D A (([] : va_W)) → va_S A s.heap H locs → decode cJ1_canEncode_9a6ad pc = .ok (.ireturn, 1) → W p l e (headSpec wsJ1_canEncode_9a6ad rm_J1_canEncode_9a6ad).room s m args below meth c H locs 0 0 (MQ below (QRo G (([] : va_W)) out A) args s 0 0 A) (F0 m pc ls [.int v]) := fun pc v H locs ls ho hn hP hD hS hd => W.zret (v := v) hx hb hr hn (fun t ht hW => ⟨⟨v, (), rfl, Option.some.inj ho, by first | (rw [ht]; exact hP) | (dsimp only; rw [ht]; exact hP)⟩, hS.F ht⟩) hS.2.2 hd
  generalize MQ below (QRo G (([] : va_W)) out A) args s 0 0 A = Q at fin ⊢
  have blk15 : f_J1_canEncode_9a6ad_b15 = some out → ∀ (H : Heap) (locs : List Loc), va_P G.1 vwCl (([] : va_W)) H → va_D A (([] : va_W)) → va_S A s.heap H locs → ∀ (ls : Array Slot), lv_has ls 1 [] → W p l e (headSpec wsJ1_canEncode_9a6ad rm_J1_canEncode_9a6ad).room s m args below meth c H locs 0 0 Q (F0 m 15 ls []) := by
    intro hf H locs hP hD hS ls hl
    rw [f_J1_canEncode_9a6ad_b15] at hf
    refine lv_iconst (v := 0) hx hb dJ1_canEncode_9a6ad_15 (by decide) ?_
    exact fin _ _ _ _ _ hf rfl hP hD hS dJ1_canEncode_9a6ad_16
  have go : ∀ (H : Heap) (locs : List Loc), va_P G.1 vwCl (([] : va_W)) H → va_D A (([] : va_W)) → va_S A s.heap H locs → ∀ (ls : Array Slot), lv_has ls 1 [(0, .int p0)] → W p l e (headSpec wsJ1_canEncode_9a6ad rm_J1_canEncode_9a6ad).room s m args below meth c H locs 0 0 Q (F0 m 0 ls []) := by
    intro H locs hP hD hS ls hl
    refine lv_iload_n hx hb dJ1_canEncode_9a6ad_0 rfl (lv_at hl 0 rfl) ?_
    refine lv_if_lt (tgt := 15) hx hb dJ1_canEncode_9a6ad_1 (by decide) (fun c1 => ?_) (fun c1 => ?_)
    · replace hf := ob_pos c1 hf
      exact blk15  hf _ _ hP hD hS _ (lv_sub hl [] rfl)
    · replace hf := ob_neg c1 hf
      refine lv_iload_n hx hb dJ1_canEncode_9a6ad_4 rfl (lv_at hl 0 rfl) ?_
      refine lv_sipush (v := 255) hx hb dJ1_canEncode_9a6ad_5 (by decide) ?_
      refine lv_icmp_gt (tgt := 15) hx hb dJ1_canEncode_9a6ad_8 (by decide) (fun c2 => ?_) (fun c2 => ?_)
      · replace hf := ob_pos c2 hf
        exact blk15  hf _ _ hP hD hS _ (lv_sub hl [] rfl)
      · replace hf := ob_neg c2 hf
        refine lv_iconst (v := 1) hx hb dJ1_canEncode_9a6ad_11 (by decide) ?_
        refine lv_goto (tgt := 16) hx hb dJ1_canEncode_9a6ad_12 (by decide) ?_
        exact fin _ _ _ _ _ hf rfl hP hD hS dJ1_canEncode_9a6ad_16
  exact go _ _ hP hD hS _ hl
abbrev rm_J1_indexOfChar_4cfef : Room := { frames := 1, cells := 0, slots := 0, locals := 24 }
set_option maxHeartbeats 4000000 in
set_option maxRecDepth 100000 in
theorem c_J1_indexOfChar_4cfef (l : Launch) (G : zG) (sz : Nat) (p0 : Nat) (p1 : Int32) (p2 : Int32) (p3 : Int32) (out : Int32) (hf : f_J1_indexOfChar_4cfef p0 p1 p2 p3 = some out) : Met l yJ1_indexOfChar_4cfef wsJ1_indexOfChar_4cfef rm_J1_indexOfChar_4cfef (PcM G (([] : va_W)) [.ref (G.2.2.2 p0), .int p1, .int p2, .int p3] sz) (QRo G (([] : va_W)) out (va_A (([] : va_W)) sz)) 0 0 (va_A (([] : va_W)) sz) := by
  rw [f_J1_indexOfChar_4cfef] at hf
  refine Met.ofW (cc := cJ1_indexOfChar_4cfef) (maxL := 6) (ret := (some .int)) (by decide) rfl ?_
  intro p e s m args below meth c s₁ B hml hv
  obtain ⟨hargs, hsz, hP, hK, hD0, hE⟩ := hv
  have hx := B.exec
  have hb := B.bytes
  have hr := B.returns
  have hts := atoms_spec (ws := wsJ1_indexOfChar_4cfef) B.pre
  have hown : s.vm.findClass RJ1 = some m.cls := findClass_of_methodNamed B.named
  have hlocks := B.notSynchronized
  subst hsz
  have hD := hD0.self (sz := s.heap.size)
  generalize hAe : va_A (([] : va_W)) s.heap.size = A at hD hE ⊢
  have hA : ∀ q : Nat, s.heap.size ≤ q → A q := fun q h => by rw [← hAe]; exact Or.inr h
  have hS : va_S A s.heap s.heap [] := va_S.rf
  have hl := lv_entry ([.ref (G.2.2.2 p0), .int p1, .int p2, .int p3]) (n := 6) (Nat.le_of_ble_eq_true rfl)
  have hent : entryFrame m args 6 = F0 m 0 ((lg_sl ([.ref (G.2.2.2 p0), .int p1, .int p2, .int p3]) ++ List.replicate (6 - (lg_sl ([.ref (G.2.2.2 p0), .int p1, .int p2, .int p3])).length) Slot.unset).toArray) [] := by rw [hargs, lg_entry_eq]
  rw [hent]
  clear hent
  generalize (lg_sl ([.ref (G.2.2.2 p0), .int p1, .int p2, .int p3]) ++ List.replicate (6 - (lg_sl ([.ref (G.2.2.2 p0), .int p1, .int p2, .int p3])).length) Slot.unset).toArray = ls at hl ⊢
  have hl : lv_has ls 6 [(0, .ref (G.2.2.2 p0)), (1, .int p1), (2, .int p2), (3, .int p3)] := hl
  have fin : ∀ (pc : Nat) (v : Int32) (H : Heap) (locs : List Loc) (ls : Array Slot), some v = some out → va_P G.1 vwCl (([] : va_W)) H → va_D A (([] : va_W)) → va_S A s.heap H locs → decode cJ1_indexOfChar_4cfef pc = .ok (.ireturn, 1) → W p l e (headSpec wsJ1_indexOfChar_4cfef rm_J1_indexOfChar_4cfef).room s m args below meth c H locs 0 0 (MQ below (QRo G (([] : va_W)) out A) args s 0 0 A) (F0 m pc ls [.int v]) := fun pc v H locs ls ho hP hD hS hd => W.iret (v := v) hx hb hr (fun t ht hW => ⟨⟨v, (), rfl, Option.some.inj ho, by first | (rw [ht]; exact hP) | (dsimp only; rw [ht]; exact hP)⟩, hS.F ht⟩) hS.2.2 hd
  generalize MQ below (QRo G (([] : va_W)) out A) args s 0 0 A = Q at fin ⊢
  obtain ⟨hi_p0, hf⟩ := ob_guard hf
  have blk7 : ∀ (fu7 : Nat), ∀ (v3 : Int32) (v4 : Int32) (v5 : Int32), f_J1_indexOfChar_4cfef_b7 p0 fu7 v3 v4 v5 = some out → ∀ (H : Heap) (locs : List Loc), va_P G.1 vwCl (([] : va_W)) H → va_D A (([] : va_W)) → va_S A s.heap H locs → ∀ (ls : Array Slot), lv_has ls 6 [(0, .ref (G.2.2.2 p0)), (3, .int v3), (4, .int v4), (5, .int v5)] → W p l e (headSpec wsJ1_indexOfChar_4cfef rm_J1_indexOfChar_4cfef).room s m args below meth c H locs 0 0 Q (F0 m 7 ls []) := by
    intro fu7
    induction fu7 with
    | zero => intro v3 v4 v5 hf; exact ob_none hf
    | succ fu7 ih7 =>
      intro v3 v4 v5 hf H locs hP hD hS ls hl
      rw [f_J1_indexOfChar_4cfef_b7] at hf
      refine lv_iload hx hb dJ1_indexOfChar_4cfef_7 (lv_at hl 3 rfl) ?_
      refine lv_iload_n hx hb dJ1_indexOfChar_4cfef_9 rfl (lv_at hl 1 rfl) ?_
      refine lv_icmp_ge (tgt := 31) hx hb dJ1_indexOfChar_4cfef_10 (by decide) (fun c1 => ?_) (fun c1 => ?_)
      · replace hf := ob_pos c1 hf
        refine lv_iconst (v := (-1)) hx hb dJ1_indexOfChar_4cfef_31 (by decide) ?_
        exact fin _ _ _ _ _ hf hP hD hS dJ1_indexOfChar_4cfef_32
      · replace hf := ob_neg c1 hf
        refine lv_aload_n hx hb dJ1_indexOfChar_4cfef_13 rfl (lv_at hl 0 rfl) ?_
        refine lv_iload hx hb dJ1_indexOfChar_4cfef_14 (lv_at hl 3 rfl) ?_
        obtain ⟨hg2, hf⟩ := ob_guard hf
        refine va_tb hx hb ((hE.2.1.1 _ hi_p0).2.2.2) hS hg2 (v := .int ((bytS.getD p0 []).getD (v5).toNatClampNeg 0)) rfl dJ1_indexOfChar_4cfef_16 ?_
        refine lv_iload hx hb dJ1_indexOfChar_4cfef_17 (lv_at hl 2 rfl) ?_
        refine lv_icmp_ne (tgt := 25) hx hb dJ1_indexOfChar_4cfef_19 (by decide) (fun c3 => ?_) (fun c3 => ?_)
        · replace hf := ob_neg c3 hf
          refine lv_iinc (v := v5 + 1) (lv' := [(5, .int (v5 + 1)), (0, .ref (G.2.2.2 p0)), (3, .int v3), (4, .int v4)]) hx hb dJ1_indexOfChar_4cfef_25 hl (k := 3) rfl rfl (by decide) rfl (fun ls hl => ?_)
          refine lv_goto (tgt := 7) hx hb dJ1_indexOfChar_4cfef_28 (by decide) ?_
          exact ih7 _ _ _ hf _ _ hP hD hS _ (lv_sub hl [1, 2, 3, 0] rfl)
        · replace hf := ob_pos c3 hf
          refine lv_iload hx hb dJ1_indexOfChar_4cfef_22 (lv_at hl 3 rfl) ?_
          exact fin _ _ _ _ _ hf hP hD hS dJ1_indexOfChar_4cfef_24
  have go : ∀ (H : Heap) (locs : List Loc), va_P G.1 vwCl (([] : va_W)) H → va_D A (([] : va_W)) → va_S A s.heap H locs → ∀ (ls : Array Slot), lv_has ls 6 [(0, .ref (G.2.2.2 p0)), (1, .int p1), (2, .int p2), (3, .int p3)] → W p l e (headSpec wsJ1_indexOfChar_4cfef rm_J1_indexOfChar_4cfef).room s m args below meth c H locs 0 0 Q (F0 m 0 ls []) := by
    intro H locs hP hD hS ls hl
    refine lv_iload_n hx hb dJ1_indexOfChar_4cfef_0 rfl (lv_at hl 1 rfl) ?_
    refine lv_i2b hx hb dJ1_indexOfChar_4cfef_1 rfl ?_
    refine lv_istore (lv' := [(4, .int p1.toInt8.toInt32), (0, .ref (G.2.2.2 p0)), (1, .int p1), (2, .int p2), (3, .int p3)]) hx hb dJ1_indexOfChar_4cfef_2 hl (by decide) rfl (fun ls hl => ?_)
    refine lv_iload_n hx hb dJ1_indexOfChar_4cfef_4 rfl (lv_at hl 3 rfl) ?_
    refine lv_istore (lv' := [(5, .int p2), (4, .int p1.toInt8.toInt32), (0, .ref (G.2.2.2 p0)), (1, .int p1), (2, .int p2), (3, .int p3)]) hx hb dJ1_indexOfChar_4cfef_5 hl (by decide) rfl (fun ls hl => ?_)
    exact blk7 4096 _ _ _ hf _ _ hP hD hS _ (lv_sub hl [2, 5, 1, 0] rfl)
  exact go _ _ hP hD hS _ hl
abbrev rm_J1_indexOf_4cfef : Room := { frames := 2, cells := 0, slots := 0, locals := 49 }
set_option maxHeartbeats 4000000 in
set_option maxRecDepth 100000 in
theorem c_J1_indexOf_4cfef (l : Launch) (G : zG) (sz : Nat) (p0 : Nat) (p1 : Int32) (p2 : Int32) (p3 : Int32) (out : Int32) (hf : f_J1_indexOf_4cfef p0 p1 p2 p3 = some out) : Met l yJ1_indexOf_4cfef wsJ1_indexOf_4cfef rm_J1_indexOf_4cfef (PcM G (([] : va_W)) [.ref (G.2.2.2 p0), .int p1, .int p2, .int p3] sz) (QRo G (([] : va_W)) out (va_A (([] : va_W)) sz)) 0 0 (va_A (([] : va_W)) sz) := by
  rw [f_J1_indexOf_4cfef] at hf
  refine Met.ofW (cc := cJ1_indexOf_4cfef) (maxL := 4) (ret := (some .int)) (by decide) rfl ?_
  intro p e s m args below meth c s₁ B hml hv
  obtain ⟨hargs, hsz, hP, hK, hD0, hE⟩ := hv
  have hx := B.exec
  have hb := B.bytes
  have hr := B.returns
  have hts := atoms_spec (ws := wsJ1_indexOf_4cfef) B.pre
  have hown : s.vm.findClass RJ1 = some m.cls := findClass_of_methodNamed B.named
  have hlocks := B.notSynchronized
  subst hsz
  have hD := hD0.self (sz := s.heap.size)
  generalize hAe : va_A (([] : va_W)) s.heap.size = A at hD hE ⊢
  have hA : ∀ q : Nat, s.heap.size ≤ q → A q := fun q h => by rw [← hAe]; exact Or.inr h
  have hS : va_S A s.heap s.heap [] := va_S.rf
  have hl := lv_entry ([.ref (G.2.2.2 p0), .int p1, .int p2, .int p3]) (n := 4) (Nat.le_of_ble_eq_true rfl)
  have hent : entryFrame m args 4 = F0 m 0 ((lg_sl ([.ref (G.2.2.2 p0), .int p1, .int p2, .int p3]) ++ List.replicate (4 - (lg_sl ([.ref (G.2.2.2 p0), .int p1, .int p2, .int p3])).length) Slot.unset).toArray) [] := by rw [hargs, lg_entry_eq]
  rw [hent]
  clear hent
  generalize (lg_sl ([.ref (G.2.2.2 p0), .int p1, .int p2, .int p3]) ++ List.replicate (4 - (lg_sl ([.ref (G.2.2.2 p0), .int p1, .int p2, .int p3])).length) Slot.unset).toArray = ls at hl ⊢
  have hl : lv_has ls 4 [(0, .ref (G.2.2.2 p0)), (1, .int p1), (2, .int p2), (3, .int p3)] := hl
  have lk0 := hts (Cond.methodLink RJ1 92 Lib.Math.max.name) (List.mem_of_getElem? (i := 1) rfl)
  have lk1 := hts (Cond.static Lib.Math.max.name) (List.mem_of_getElem? (i := 2) rfl)
  have lk2 := hts (Cond.initialized "java/lang/Math") (List.mem_of_getElem? (i := 3) rfl)
  have lk3 := hts (Cond.code Lib.Math.max.name Lib.Math.max.code 2 (some .int)) (List.mem_of_getElem? (i := 4) rfl)
  have lk4 := hts (Cond.methodLink RJ1 38 Lib.Math.min.name) (List.mem_of_getElem? (i := 5) rfl)
  have lk5 := hts (Cond.static Lib.Math.min.name) (List.mem_of_getElem? (i := 6) rfl)
  have lk6 := hts (Cond.code Lib.Math.min.name Lib.Math.min.code 2 (some .int)) (List.mem_of_getElem? (i := 7) rfl)
  have fin : ∀ (pc : Nat) (v : Int32) (H : Heap) (locs : List Loc) (ls : Array Slot), some v = some out → va_P G.1 vwCl (([] : va_W)) H → va_D A (([] : va_W)) → va_S A s.heap H locs → decode cJ1_indexOf_4cfef pc = .ok (.ireturn, 1) → W p l e (headSpec wsJ1_indexOf_4cfef rm_J1_indexOf_4cfef).room s m args below meth c H locs 0 0 (MQ below (QRo G (([] : va_W)) out A) args s 0 0 A) (F0 m pc ls [.int v]) := fun pc v H locs ls ho hP hD hS hd => W.iret (v := v) hx hb hr (fun t ht hW => ⟨⟨v, (), rfl, Option.some.inj ho, by first | (rw [ht]; exact hP) | (dsimp only; rw [ht]; exact hP)⟩, hS.F ht⟩) hS.2.2 hd
  generalize MQ below (QRo G (([] : va_W)) out A) args s 0 0 A = Q at fin ⊢
  obtain ⟨hi_p0, hf⟩ := ob_guard hf
  have go : ∀ (H : Heap) (locs : List Loc), va_P G.1 vwCl (([] : va_W)) H → va_D A (([] : va_W)) → va_S A s.heap H locs → ∀ (ls : Array Slot), lv_has ls 4 [(0, .ref (G.2.2.2 p0)), (1, .int p1), (2, .int p2), (3, .int p3)] → W p l e (headSpec wsJ1_indexOf_4cfef rm_J1_indexOf_4cfef).room s m args below meth c H locs 0 0 Q (F0 m 0 ls []) := by
    intro H locs hP hD hS ls hl
    refine lv_iload_n hx hb dJ1_indexOf_4cfef_0 rfl (lv_at hl 1 rfl) ?_
    obtain ⟨r1, hr1, hf⟩ := ob_bind hf
    have hFc := va_free (wc := ([] : va_W)) hD hS hA [] rfl
    refine zc_ro (va_runS (As := [.int p1]) (rest := []) ⟨hx, hb, hml, hown, hts⟩ (c_J1_canEncode_9a6ad l G H.size p1 _ hr1) (va_cwS 1 hts gJ1_indexOf_4cfef_J1_canEncode_9a6ad rfl rfl rfl (by decide +kernel) ⟨Nat.le_of_ble_eq_true rfl, Nat.le_of_ble_eq_true rfl⟩) ⟨PcM.blind, PcM.ok hP hD hK hE hS hFc⟩ rfl rfl hl.1 rfl (lv_room (Nat.le_of_ble_eq_true rfl)) dJ1_indexOf_4cfef_1 ⟨Nat.le_refl _, Nat.le_refl _⟩) hP hD hS hA [] rfl (fun H locs hP hS => ?_)
    refine lv_if_ne (tgt := 9) hx hb dJ1_indexOf_4cfef_4 (by decide) (fun c2 => ?_) (fun c2 => ?_)
    · replace hf := ob_neg c2 hf
      refine lv_iload_n hx hb dJ1_indexOf_4cfef_9 rfl (lv_at hl 2 rfl) ?_
      refine lv_iconst (v := 0) hx hb dJ1_indexOf_4cfef_10 (by decide) ?_
      refine va_mmax hx hb (hml.trans hl.1.symm) hown lk0 lk1 lk2 lk3 (Nat.le_of_ble_eq_true rfl) (Nat.le_of_ble_eq_true rfl) (Nat.zero_le _) (Nat.zero_le _) dJ1_indexOf_4cfef_11 ?_
      refine lv_istore_n (lv' := [(2, .int (if p2 < 0 then 0 else p2)), (0, .ref (G.2.2.2 p0)), (1, .int p1), (3, .int p3)]) hx hb dJ1_indexOf_4cfef_14 rfl hl (by decide) rfl (fun ls hl => ?_)
      refine lv_iload_n hx hb dJ1_indexOf_4cfef_15 rfl (lv_at hl 3 rfl) ?_
      refine lv_aload_n hx hb dJ1_indexOf_4cfef_16 rfl (lv_at hl 1 rfl) ?_
      refine va_tlen hx hb ((hE.2.1.1 _ hi_p0).2.2.2) hS (v := Int32.ofNat (lenS.getD p0 0)) rfl dJ1_indexOf_4cfef_17 ?_
      refine va_mmin hx hb (hml.trans hl.1.symm) hown lk4 lk5 lk2 lk6 (Nat.le_of_ble_eq_true rfl) (Nat.le_of_ble_eq_true rfl) (Nat.zero_le _) (Nat.zero_le _) dJ1_indexOf_4cfef_18 ?_
      refine lv_istore_n (lv' := [(3, .int (if (Int32.ofNat (lenS.getD p0 0)) < p3 then (Int32.ofNat (lenS.getD p0 0)) else p3)), (2, .int (if p2 < 0 then 0 else p2)), (0, .ref (G.2.2.2 p0)), (1, .int p1)]) hx hb dJ1_indexOf_4cfef_21 rfl hl (by decide) rfl (fun ls hl => ?_)
      refine lv_iload_n hx hb dJ1_indexOf_4cfef_22 rfl (lv_at hl 1 rfl) ?_
      refine lv_iload_n hx hb dJ1_indexOf_4cfef_23 rfl (lv_at hl 0 rfl) ?_
      refine lv_icmp_lt (tgt := 29) hx hb dJ1_indexOf_4cfef_24 (by decide) (fun c3 => ?_) (fun c3 => ?_)
      · replace hf := ob_pos c3 hf
        refine lv_aload_n hx hb dJ1_indexOf_4cfef_29 rfl (lv_at hl 2 rfl) ?_
        refine lv_iload_n hx hb dJ1_indexOf_4cfef_30 rfl (lv_at hl 3 rfl) ?_
        refine lv_iload_n hx hb dJ1_indexOf_4cfef_31 rfl (lv_at hl 1 rfl) ?_
        refine lv_iload_n hx hb dJ1_indexOf_4cfef_32 rfl (lv_at hl 0 rfl) ?_
        obtain ⟨r4, hr4, hf⟩ := ob_bind hf
        have hFc := va_free (wc := ([] : va_W)) hD hS hA [] rfl
        refine zc_ro (va_runS (As := [.ref (G.2.2.2 p0), .int p1, .int (if p2 < 0 then 0 else p2), .int (if (Int32.ofNat (lenS.getD p0 0)) < p3 then (Int32.ofNat (lenS.getD p0 0)) else p3)]) (rest := []) ⟨hx, hb, hml, hown, hts⟩ (c_J1_indexOfChar_4cfef l G H.size p0 p1 (if p2 < 0 then 0 else p2) (if (Int32.ofNat (lenS.getD p0 0)) < p3 then (Int32.ofNat (lenS.getD p0 0)) else p3) _ hr4) (va_cwS 4 hts gJ1_indexOf_4cfef_J1_indexOfChar_4cfef rfl rfl rfl (by decide +kernel) ⟨Nat.le_of_ble_eq_true rfl, Nat.le_of_ble_eq_true rfl⟩) ⟨PcM.blind, PcM.ok hP hD hK hE hS hFc⟩ rfl rfl hl.1 rfl (lv_room (Nat.le_of_ble_eq_true rfl)) dJ1_indexOf_4cfef_33 ⟨Nat.le_refl _, Nat.le_refl _⟩) hP hD hS hA [] rfl (fun H locs hP hS => ?_)
        exact fin _ _ _ _ _ hf hP hD hS dJ1_indexOf_4cfef_36
      · replace hf := ob_neg c3 hf
        refine lv_iconst (v := (-1)) hx hb dJ1_indexOf_4cfef_27 (by decide) ?_
        exact fin _ _ _ _ _ hf hP hD hS dJ1_indexOf_4cfef_28
    · replace hf := ob_pos c2 hf
      refine lv_iconst (v := (-1)) hx hb dJ1_indexOf_4cfef_7 (by decide) ?_
      exact fin _ _ _ _ _ hf hP hD hS dJ1_indexOf_4cfef_8
  exact go _ _ hP hD hS _ hl
abbrev rm_J0_indexOf_7cf53 : Room := { frames := 3, cells := 0, slots := 0, locals := 72 }
set_option maxHeartbeats 4000000 in
set_option maxRecDepth 100000 in
theorem c_J0_indexOf_7cf53 (l : Launch) (G : zG) (sz : Nat) (p0 : Nat) (p1 : Int32) (p2 : Int32) (out : Int32) (hf : f_J0_indexOf_7cf53 p0 p1 p2 = some out) : Met l yJ0_indexOf_7cf53 wsJ0_indexOf_7cf53 rm_J0_indexOf_7cf53 (PcM G (([] : va_W)) [.ref (G.2.2.1 p0), .int p1, .int p2] sz) (QRo G (([] : va_W)) out (va_A (([] : va_W)) sz)) 0 0 (va_A (([] : va_W)) sz) := by
  rw [f_J0_indexOf_7cf53] at hf
  refine Met.ofW (cc := cJ0_indexOf_7cf53) (maxL := 3) (ret := (some .int)) (by decide) rfl ?_
  intro p e s m args below meth c s₁ B hml hv
  obtain ⟨hargs, hsz, hP, hK, hD0, hE⟩ := hv
  have hx := B.exec
  have hb := B.bytes
  have hr := B.returns
  have hts := atoms_spec (ws := wsJ0_indexOf_7cf53) B.pre
  have hown : s.vm.findClass RJ0 = some m.cls := findClass_of_methodNamed B.named
  have hlocks := B.notSynchronized
  subst hsz
  have hD := hD0.self (sz := s.heap.size)
  generalize hAe : va_A (([] : va_W)) s.heap.size = A at hD hE ⊢
  have hA : ∀ q : Nat, s.heap.size ≤ q → A q := fun q h => by rw [← hAe]; exact Or.inr h
  have hS : va_S A s.heap s.heap [] := va_S.rf
  have hl := lv_entry ([.ref (G.2.2.1 p0), .int p1, .int p2]) (n := 3) (Nat.le_of_ble_eq_true rfl)
  have hent : entryFrame m args 3 = F0 m 0 ((lg_sl ([.ref (G.2.2.1 p0), .int p1, .int p2]) ++ List.replicate (3 - (lg_sl ([.ref (G.2.2.1 p0), .int p1, .int p2])).length) Slot.unset).toArray) [] := by rw [hargs, lg_entry_eq]
  rw [hent]
  clear hent
  generalize (lg_sl ([.ref (G.2.2.1 p0), .int p1, .int p2]) ++ List.replicate (3 - (lg_sl ([.ref (G.2.2.1 p0), .int p1, .int p2])).length) Slot.unset).toArray = ls at hl ⊢
  have hl : lv_has ls 3 [(0, .ref (G.2.2.1 p0)), (1, .int p1), (2, .int p2)] := hl
  have lk0 := hts (Cond.fieldLink RJ0 9 "java/lang/String" "value" "[B") (List.mem_of_getElem? (i := 1) rfl)
  have fin : ∀ (pc : Nat) (v : Int32) (H : Heap) (locs : List Loc) (ls : Array Slot), some v = some out → va_P G.1 vwCl (([] : va_W)) H → va_D A (([] : va_W)) → va_S A s.heap H locs → decode cJ0_indexOf_7cf53 pc = .ok (.ireturn, 1) → W p l e (headSpec wsJ0_indexOf_7cf53 rm_J0_indexOf_7cf53).room s m args below meth c H locs 0 0 (MQ below (QRo G (([] : va_W)) out A) args s 0 0 A) (F0 m pc ls [.int v]) := fun pc v H locs ls ho hP hD hS hd => W.iret (v := v) hx hb hr (fun t ht hW => ⟨⟨v, (), rfl, Option.some.inj ho, by first | (rw [ht]; exact hP) | (dsimp only; rw [ht]; exact hP)⟩, hS.F ht⟩) hS.2.2 hd
  generalize MQ below (QRo G (([] : va_W)) out A) args s 0 0 A = Q at fin ⊢
  obtain ⟨hi_p0, hf⟩ := ob_guard hf
  have go : ∀ (H : Heap) (locs : List Loc), va_P G.1 vwCl (([] : va_W)) H → va_D A (([] : va_W)) → va_S A s.heap H locs → ∀ (ls : Array Slot), lv_has ls 3 [(0, .ref (G.2.2.1 p0)), (1, .int p1), (2, .int p2)] → W p l e (headSpec wsJ0_indexOf_7cf53 rm_J0_indexOf_7cf53).room s m args below meth c H locs 0 0 Q (F0 m 0 ls []) := by
    intro H locs hP hD hS ls hl
    refine lv_aload_n hx hb dJ0_indexOf_7cf53_0 rfl (lv_at hl 0 rfl) ?_
    obtain ⟨r1, hr1, hf⟩ := ob_bind hf
    have hFc := va_free (wc := ([] : va_W)) hD hS hA [] rfl
    refine zc_ro (va_runV (As := []) (rest := []) ⟨hx, hb, hml, hown, hts⟩ (c_J0_isLatin1_aae02 l G H.size p0 _ hr1) (cwV 0 hts gJ0_indexOf_7cf53_J0_isLatin1_aae02 rfl rfl rfl (by decide +kernel) ⟨Nat.le_of_ble_eq_true rfl, Nat.le_of_ble_eq_true rfl⟩) ⟨PcM.blind, vk_recv hE.2.1 hi_p0 hS, PcM.ok hP hD hK hE hS hFc⟩ rfl rfl hl.1 rfl (lv_room (Nat.le_of_ble_eq_true rfl)) dJ0_indexOf_7cf53_1 ⟨Nat.le_refl _, Nat.le_refl _⟩) hP hD hS hA [] rfl (fun H locs hP hS => ?_)
    refine lv_if_eq (tgt := 23) hx hb dJ0_indexOf_7cf53_4 (by decide) (fun c2 => ?_) (fun c2 => ?_)
    · replace hf := ob_pos c2 hf
      refine lv_aload_n hx hb dJ0_indexOf_7cf53_23 rfl (lv_at hl 0 rfl) ?_
      refine vk_getf hx hb ((hE.2.1.1 _ hi_p0).2.2.1) hS hown lk0 (fun _ h9 => h9) dJ0_indexOf_7cf53_24 ?_
      refine lv_iload_n hx hb dJ0_indexOf_7cf53_27 rfl (lv_at hl 1 rfl) ?_
      refine lv_iload_n hx hb dJ0_indexOf_7cf53_28 rfl (lv_at hl 2 rfl) ?_
      refine lv_aload_n hx hb dJ0_indexOf_7cf53_29 rfl (lv_at hl 0 rfl) ?_
      obtain ⟨r3, hr3, hf⟩ := ob_bind hf
      have hFc := va_free (wc := ([] : va_W)) hD hS hA [] rfl
      refine zc_ro (va_runV (As := []) (rest := [.int p2, .int p1, .ref (G.2.2.2 p0)]) ⟨hx, hb, hml, hown, hts⟩ (c_J0_length_8abf5 l G H.size p0 _ hr3) (cwV 0 hts gJ0_indexOf_7cf53_J0_length_8abf5 rfl rfl rfl (by decide +kernel) ⟨Nat.le_of_ble_eq_true rfl, Nat.le_of_ble_eq_true rfl⟩) ⟨PcM.blind, vk_recv hE.2.1 hi_p0 hS, PcM.ok hP hD hK hE hS hFc⟩ rfl rfl hl.1 rfl (lv_room (Nat.le_of_ble_eq_true rfl)) dJ0_indexOf_7cf53_30 ⟨Nat.le_refl _, Nat.le_refl _⟩) hP hD hS hA [] rfl (fun H locs hP hS => ?_)
      exact ob_none hf
    · replace hf := ob_neg c2 hf
      refine lv_aload_n hx hb dJ0_indexOf_7cf53_7 rfl (lv_at hl 0 rfl) ?_
      refine vk_getf hx hb ((hE.2.1.1 _ hi_p0).2.2.1) hS hown lk0 (fun _ h9 => h9) dJ0_indexOf_7cf53_8 ?_
      refine lv_iload_n hx hb dJ0_indexOf_7cf53_11 rfl (lv_at hl 1 rfl) ?_
      refine lv_iload_n hx hb dJ0_indexOf_7cf53_12 rfl (lv_at hl 2 rfl) ?_
      refine lv_aload_n hx hb dJ0_indexOf_7cf53_13 rfl (lv_at hl 0 rfl) ?_
      obtain ⟨r4, hr4, hf⟩ := ob_bind hf
      have hFc := va_free (wc := ([] : va_W)) hD hS hA [] rfl
      refine zc_ro (va_runV (As := []) (rest := [.int p2, .int p1, .ref (G.2.2.2 p0)]) ⟨hx, hb, hml, hown, hts⟩ (c_J0_length_8abf5 l G H.size p0 _ hr4) (cwV 0 hts gJ0_indexOf_7cf53_J0_length_8abf5 rfl rfl rfl (by decide +kernel) ⟨Nat.le_of_ble_eq_true rfl, Nat.le_of_ble_eq_true rfl⟩) ⟨PcM.blind, vk_recv hE.2.1 hi_p0 hS, PcM.ok hP hD hK hE hS hFc⟩ rfl rfl hl.1 rfl (lv_room (Nat.le_of_ble_eq_true rfl)) dJ0_indexOf_7cf53_14 ⟨Nat.le_refl _, Nat.le_refl _⟩) hP hD hS hA [] rfl (fun H locs hP hS => ?_)
      obtain ⟨r5, hr5, hf⟩ := ob_bind hf
      have hFc := va_free (wc := ([] : va_W)) hD hS hA [] rfl
      refine zc_ro (va_runS (As := [.ref (G.2.2.2 p0), .int p1, .int p2, .int r4]) (rest := []) ⟨hx, hb, hml, hown, hts⟩ (c_J1_indexOf_4cfef l G H.size p0 p1 p2 r4 _ hr5) (va_cwS 4 hts gJ0_indexOf_7cf53_J1_indexOf_4cfef rfl rfl rfl (by decide +kernel) ⟨Nat.le_of_ble_eq_true rfl, Nat.le_of_ble_eq_true rfl⟩) ⟨PcM.blind, PcM.ok hP hD hK hE hS hFc⟩ rfl rfl hl.1 rfl (lv_room (Nat.le_of_ble_eq_true rfl)) dJ0_indexOf_7cf53_17 ⟨Nat.le_refl _, Nat.le_refl _⟩) hP hD hS hA [] rfl (fun H locs hP hS => ?_)
      refine lv_goto (tgt := 36) hx hb dJ0_indexOf_7cf53_20 (by decide) ?_
      exact fin _ _ _ _ _ hf hP hD hS dJ0_indexOf_7cf53_36
  exact go _ _ hP hD hS _ hl
abbrev rm_J0_indexOf_0f7a4 : Room := { frames := 4, cells := 0, slots := 0, locals := 94 }
set_option maxHeartbeats 4000000 in
set_option maxRecDepth 100000 in
theorem c_J0_indexOf_0f7a4 (l : Launch) (G : zG) (sz : Nat) (p0 : Nat) (p1 : Int32) (out : Int32) (hf : f_J0_indexOf_0f7a4 p0 p1 = some out) : Met l yJ0_indexOf_0f7a4 wsJ0_indexOf_0f7a4 rm_J0_indexOf_0f7a4 (PcM G (([] : va_W)) [.ref (G.2.2.1 p0), .int p1] sz) (QRo G (([] : va_W)) out (va_A (([] : va_W)) sz)) 0 0 (va_A (([] : va_W)) sz) := by
  rw [f_J0_indexOf_0f7a4] at hf
  refine Met.ofW (cc := cJ0_indexOf_0f7a4) (maxL := 2) (ret := (some .int)) (by decide) rfl ?_
  intro p e s m args below meth c s₁ B hml hv
  obtain ⟨hargs, hsz, hP, hK, hD0, hE⟩ := hv
  have hx := B.exec
  have hb := B.bytes
  have hr := B.returns
  have hts := atoms_spec (ws := wsJ0_indexOf_0f7a4) B.pre
  have hown : s.vm.findClass RJ0 = some m.cls := findClass_of_methodNamed B.named
  have hlocks := B.notSynchronized
  subst hsz
  have hD := hD0.self (sz := s.heap.size)
  generalize hAe : va_A (([] : va_W)) s.heap.size = A at hD hE ⊢
  have hA : ∀ q : Nat, s.heap.size ≤ q → A q := fun q h => by rw [← hAe]; exact Or.inr h
  have hS : va_S A s.heap s.heap [] := va_S.rf
  have hl := lv_entry ([.ref (G.2.2.1 p0), .int p1]) (n := 2) (Nat.le_of_ble_eq_true rfl)
  have hent : entryFrame m args 2 = F0 m 0 ((lg_sl ([.ref (G.2.2.1 p0), .int p1]) ++ List.replicate (2 - (lg_sl ([.ref (G.2.2.1 p0), .int p1])).length) Slot.unset).toArray) [] := by rw [hargs, lg_entry_eq]
  rw [hent]
  clear hent
  generalize (lg_sl ([.ref (G.2.2.1 p0), .int p1]) ++ List.replicate (2 - (lg_sl ([.ref (G.2.2.1 p0), .int p1])).length) Slot.unset).toArray = ls at hl ⊢
  have hl : lv_has ls 2 [(0, .ref (G.2.2.1 p0)), (1, .int p1)] := hl
  have fin : ∀ (pc : Nat) (v : Int32) (H : Heap) (locs : List Loc) (ls : Array Slot), some v = some out → va_P G.1 vwCl (([] : va_W)) H → va_D A (([] : va_W)) → va_S A s.heap H locs → decode cJ0_indexOf_0f7a4 pc = .ok (.ireturn, 1) → W p l e (headSpec wsJ0_indexOf_0f7a4 rm_J0_indexOf_0f7a4).room s m args below meth c H locs 0 0 (MQ below (QRo G (([] : va_W)) out A) args s 0 0 A) (F0 m pc ls [.int v]) := fun pc v H locs ls ho hP hD hS hd => W.iret (v := v) hx hb hr (fun t ht hW => ⟨⟨v, (), rfl, Option.some.inj ho, by first | (rw [ht]; exact hP) | (dsimp only; rw [ht]; exact hP)⟩, hS.F ht⟩) hS.2.2 hd
  generalize MQ below (QRo G (([] : va_W)) out A) args s 0 0 A = Q at fin ⊢
  obtain ⟨hi_p0, hf⟩ := ob_guard hf
  have go : ∀ (H : Heap) (locs : List Loc), va_P G.1 vwCl (([] : va_W)) H → va_D A (([] : va_W)) → va_S A s.heap H locs → ∀ (ls : Array Slot), lv_has ls 2 [(0, .ref (G.2.2.1 p0)), (1, .int p1)] → W p l e (headSpec wsJ0_indexOf_0f7a4 rm_J0_indexOf_0f7a4).room s m args below meth c H locs 0 0 Q (F0 m 0 ls []) := by
    intro H locs hP hD hS ls hl
    refine lv_aload_n hx hb dJ0_indexOf_0f7a4_0 rfl (lv_at hl 0 rfl) ?_
    refine lv_iload_n hx hb dJ0_indexOf_0f7a4_1 rfl (lv_at hl 1 rfl) ?_
    refine lv_iconst (v := 0) hx hb dJ0_indexOf_0f7a4_2 (by decide) ?_
    obtain ⟨r1, hr1, hf⟩ := ob_bind hf
    have hFc := va_free (wc := ([] : va_W)) hD hS hA [] rfl
    refine zc_ro (va_runV (As := [.int p1, .int 0]) (rest := []) ⟨hx, hb, hml, hown, hts⟩ (c_J0_indexOf_7cf53 l G H.size p0 p1 0 _ hr1) (cwV 2 hts gJ0_indexOf_0f7a4_J0_indexOf_7cf53 rfl rfl rfl (by decide +kernel) ⟨Nat.le_of_ble_eq_true rfl, Nat.le_of_ble_eq_true rfl⟩) ⟨PcM.blind, vk_recv hE.2.1 hi_p0 hS, PcM.ok hP hD hK hE hS hFc⟩ rfl rfl hl.1 rfl (lv_room (Nat.le_of_ble_eq_true rfl)) dJ0_indexOf_0f7a4_3 ⟨Nat.le_refl _, Nat.le_refl _⟩) hP hD hS hA [] rfl (fun H locs hP hS => ?_)
    exact fin _ _ _ _ _ hf hP hD hS dJ0_indexOf_0f7a4_6
  exact go _ _ hP hD hS _ hl
abbrev rm_X2_kind : Room := { frames := 5, cells := 0, slots := 0, locals := 115 }
set_option maxHeartbeats 4000000 in
set_option maxRecDepth 100000 in
theorem c_X2_kind (l : Launch) (G : zG) (a0 : AT_X2) (sz : Nat) (S0 : ST_X2) (p1 : Int32) (out : Int32) (hf : f_X2_kind S0 p1 = some out) : Met l yX2_kind wsX2_kind rm_X2_kind (PcM G (ce_X2 G.2.1 a0 S0) [.ref a0.1, .int p1] sz) (QRo G (ce_X2 G.2.1 a0 S0) out (va_A (ce_X2 G.2.1 a0 S0) sz)) 0 0 (va_A (ce_X2 G.2.1 a0 S0) sz) := by
  rw [f_X2_kind] at hf
  refine Met.ofW (cc := cX2_kind) (maxL := 3) (ret := (some .int)) (by decide) rfl ?_
  intro p e s m args below meth c s₁ B hml hv
  obtain ⟨hargs, hsz, hP, hK, hD0, hE⟩ := hv
  have hx := B.exec
  have hb := B.bytes
  have hr := B.returns
  have hts := atoms_spec (ws := wsX2_kind) B.pre
  have hown : s.vm.findClass RX2 = some m.cls := findClass_of_methodNamed B.named
  have hlocks := B.notSynchronized
  subst hsz
  have hD := hD0.self (sz := s.heap.size)
  generalize hAe : va_A (ce_X2 G.2.1 a0 S0) s.heap.size = A at hD hE ⊢
  have hA : ∀ q : Nat, s.heap.size ≤ q → A q := fun q h => by rw [← hAe]; exact Or.inr h
  have hS : va_S A s.heap s.heap [] := va_S.rf
  have hl := lv_entry ([.ref a0.1, .int p1]) (n := 3) (Nat.le_of_ble_eq_true rfl)
  have hent : entryFrame m args 3 = F0 m 0 ((lg_sl ([.ref a0.1, .int p1]) ++ List.replicate (3 - (lg_sl ([.ref a0.1, .int p1])).length) Slot.unset).toArray) [] := by rw [hargs, lg_entry_eq]
  rw [hent]
  clear hent
  generalize (lg_sl ([.ref a0.1, .int p1]) ++ List.replicate (3 - (lg_sl ([.ref a0.1, .int p1])).length) Slot.unset).toArray = ls at hl ⊢
  have hl : lv_has ls 3 [(0, .ref a0.1), (1, .int p1)] := hl
  have fin : ∀ (pc : Nat) (v : Int32) (H : Heap) (locs : List Loc) (ls : Array Slot), some v = some out → va_P G.1 vwCl (ce_X2 G.2.1 a0 S0) H → va_D A (ce_X2 G.2.1 a0 S0) → va_S A s.heap H locs → decode cX2_kind pc = .ok (.ireturn, 1) → W p l e (headSpec wsX2_kind rm_X2_kind).room s m args below meth c H locs 0 0 (MQ below (QRo G (ce_X2 G.2.1 a0 S0) out A) args s 0 0 A) (F0 m pc ls [.int v]) := fun pc v H locs ls ho hP hD hS hd => W.iret (v := v) hx hb hr (fun t ht hW => ⟨⟨v, (), rfl, Option.some.inj ho, by first | (rw [ht]; exact hP) | (dsimp only; rw [ht]; exact hP)⟩, hS.F ht⟩) hS.2.2 hd
  generalize MQ below (QRo G (ce_X2 G.2.1 a0 S0) out A) args s 0 0 A = Q at fin ⊢
  have go : ∀ (H : Heap) (locs : List Loc), va_P G.1 vwCl (ce_X2 G.2.1 a0 S0) H → va_D A (ce_X2 G.2.1 a0 S0) → va_S A s.heap H locs → ∀ (ls : Array Slot), lv_has ls 3 [(0, .ref a0.1), (1, .int p1)] → W p l e (headSpec wsX2_kind rm_X2_kind).room s m args below meth c H locs 0 0 Q (F0 m 0 ls []) := by
    intro H locs hP hD hS ls hl
    refine lv_aload_n hx hb dX2_kind_0 rfl (lv_at hl 0 rfl) ?_
    refine lv_iload_n hx hb dX2_kind_1 rfl (lv_at hl 1 rfl) ?_
    obtain ⟨r1, hr1, hf⟩ := ob_bind hf
    have hFc := va_free (wc := ce_X2 G.2.1 a0 S0) hD hS hA [0, 1] rfl
    refine zc_ro (va_runV (As := [.int p1]) (rest := []) ⟨hx, hb, hml, hown, hts⟩ (c_X2_sign l G a0 H.size S0 p1 _ hr1) (cwV 1 hts gX2_kind_X2_sign rfl rfl rfl (by decide +kernel) ⟨Nat.le_of_ble_eq_true rfl, Nat.le_of_ble_eq_true rfl⟩) ⟨PcM.blind, va_recv hK hP (ci := 2) (q0 := 0) rfl rfl, PcM.ok hP hD hK hE hS hFc⟩ rfl rfl hl.1 rfl (lv_room (Nat.le_of_ble_eq_true rfl)) dX2_kind_2 ⟨Nat.le_refl _, Nat.le_refl _⟩) hP hD hS hA [0, 1] rfl (fun H locs hP hS => ?_)
    refine lv_istore_n (lv' := [(2, .int r1), (0, .ref a0.1), (1, .int p1)]) hx hb dX2_kind_5 rfl hl (by decide) rfl (fun ls hl => ?_)
    refine lv_iload_n hx hb dX2_kind_6 rfl (lv_at hl 0 rfl) ?_
    refine lv_if_ge (tgt := 14) hx hb dX2_kind_7 (by decide) (fun c2 => ?_) (fun c2 => ?_)
    · replace hf := ob_pos c2 hf
      refine va_ldcS hx hb hown (hE.2.2.2.2 _ st_26) dX2_kind_14 ?_
      refine lv_iload_n hx hb dX2_kind_16 rfl (lv_at hl 0 rfl) ?_
      refine lv_i2c hx hb dX2_kind_17 rfl ?_
      obtain ⟨r3, hr3, hf⟩ := ob_bind hf
      have hPc : va_P G.1 vwCl (([] : va_W)) H := hP.sub [] rfl
      have hDc : va_D A (([] : va_W)) := hD.sub [] (by decide) rfl
      have hFc := va_free (wc := ([] : va_W)) hD hS hA [] rfl
      refine zc_ro (va_runV (As := [.int ((r1.toUInt32 % 65536).toInt32)]) (rest := []) ⟨hx, hb, hml, hown, hts⟩ (c_J0_indexOf_0f7a4 l G H.size 5 ((r1.toUInt32 % 65536).toInt32) _ hr3) (cwV 1 hts gX2_kind_J0_indexOf_0f7a4 rfl rfl rfl (by decide +kernel) ⟨Nat.le_of_ble_eq_true rfl, Nat.le_of_ble_eq_true rfl⟩) ⟨PcM.blind, vk_recv hE.2.1 (by decide : 5 < 6) hS, PcM.ok hPc hDc hK hE hS hFc⟩ rfl rfl hl.1 rfl (lv_room (Nat.le_of_ble_eq_true rfl)) dX2_kind_18 ⟨Nat.le_refl _, Nat.le_refl _⟩) hP hD hS hA [] rfl (fun H locs hP hS => ?_)
      exact fin _ _ _ _ _ hf hP hD hS dX2_kind_21
    · replace hf := ob_neg c2 hf
      refine lv_iconst (v := (-1)) hx hb dX2_kind_10 (by decide) ?_
      refine lv_goto (tgt := 21) hx hb dX2_kind_11 (by decide) ?_
      exact fin _ _ _ _ _ hf hP hD hS dX2_kind_21
  exact go _ _ hP hD hS _ hl
abbrev rm_X1_takesEngine : Room := { frames := 6, cells := 0, slots := 0, locals := 137 }
set_option maxHeartbeats 4000000 in
set_option maxRecDepth 100000 in
theorem c_X1_takesEngine (l : Launch) (G : zG) (a0 : AT_X1) (a1 : AT_X2) (sz : Nat) (S0 : ST_X1) (S1 : ST_X2) (p2 : Int32) (out : Int32 × ST_X1) (hf : f_X1_takesEngine S0 S1 p2 = some out) : Met l yX1_takesEngine wsX1_takesEngine rm_X1_takesEngine (PcM G (ce_X1 G.2.1 a0 S0 ++ ce_X2 G.2.1 a1 S1) [.ref a0.1, .ref a1.1, .int p2] sz) (QWr G (fun u => ce_X1 G.2.1 a0 u ++ ce_X2 G.2.1 a1 S1) out (va_A (ce_X1 G.2.1 a0 S0 ++ ce_X2 G.2.1 a1 S1) sz)) 0 0 (va_A (ce_X1 G.2.1 a0 S0 ++ ce_X2 G.2.1 a1 S1) sz) := by
  rw [f_X1_takesEngine] at hf
  refine Met.ofW (cc := cX1_takesEngine) (maxL := 6) (ret := (some .boolean)) (by decide) rfl ?_
  intro p e s m args below meth c s₁ B hml hv
  obtain ⟨hargs, hsz, hP, hK, hD0, hE⟩ := hv
  have hx := B.exec
  have hb := B.bytes
  have hr := B.returns
  have hts := atoms_spec (ws := wsX1_takesEngine) B.pre
  have hown : s.vm.findClass RX1 = some m.cls := findClass_of_methodNamed B.named
  have hlocks := B.notSynchronized
  subst hsz
  have hD := hD0.self (sz := s.heap.size)
  generalize hAe : va_A (ce_X1 G.2.1 a0 S0 ++ ce_X2 G.2.1 a1 S1) s.heap.size = A at hD hE ⊢
  have hA : ∀ q : Nat, s.heap.size ≤ q → A q := fun q h => by rw [← hAe]; exact Or.inr h
  have hS : va_S A s.heap s.heap [] := va_S.rf
  have hl := lv_entry ([.ref a0.1, .ref a1.1, .int p2]) (n := 6) (Nat.le_of_ble_eq_true rfl)
  have hent : entryFrame m args 6 = F0 m 0 ((lg_sl ([.ref a0.1, .ref a1.1, .int p2]) ++ List.replicate (6 - (lg_sl ([.ref a0.1, .ref a1.1, .int p2])).length) Slot.unset).toArray) [] := by rw [hargs, lg_entry_eq]
  rw [hent]
  clear hent
  generalize (lg_sl ([.ref a0.1, .ref a1.1, .int p2]) ++ List.replicate (6 - (lg_sl ([.ref a0.1, .ref a1.1, .int p2])).length) Slot.unset).toArray = ls at hl ⊢
  have hl : lv_has ls 6 [(0, .ref a0.1), (1, .ref a1.1), (2, .int p2)] := hl
  have lk0 := hts (Cond.fieldLink RX1 24 "EnginesOnList$Fleet" "turns" "[I") (List.mem_of_getElem? (i := 2) rfl)
  have lk1 := hts (Cond.fieldLink RX1 33 "EnginesOnList$Fleet" "size" "I") (List.mem_of_getElem? (i := 1) rfl)
  have lk2 := hts (Cond.fieldLink RX1 9 "EnginesOnList$Fleet" "numbers" "[I") (List.mem_of_getElem? (i := 3) rfl)
  have lk3 := hts (Cond.fieldLink RX1 15 "EnginesOnList$Fleet" "kinds" "[I") (List.mem_of_getElem? (i := 4) rfl)
  have lk4 := hts (Cond.initialized RX2) (List.mem_of_getElem? (i := 9) rfl)
  have lk5 := hts (Cond.instanceMethod yX2_kind) (List.mem_of_getElem? (i := 25) rfl)
  have lk6 := hts (Cond.selects RX2 yX2_kind yX2_kind) (List.mem_of_getElem? (i := 26) rfl)
  have lk7 := hts (Cond.fieldLink RX1 18 "EnginesOnList$Fleet" "figures" "[I") (List.mem_of_getElem? (i := 5) rfl)
  have lk8 := hts (Cond.instanceMethod yX2_digit) (List.mem_of_getElem? (i := 13) rfl)
  have lk9 := hts (Cond.selects RX2 yX2_digit yX2_digit) (List.mem_of_getElem? (i := 14) rfl)
  have lk10 := hts (Cond.fieldLink RX1 21 "EnginesOnList$Fleet" "joined" "[I") (List.mem_of_getElem? (i := 6) rfl)
  have lk11 := hts (Cond.fieldLink RX1 37 "EnginesOnList$Fleet" "named" "I") (List.mem_of_getElem? (i := 7) rfl)
  have lk12 := hts (Cond.initialized RX5) (List.mem_of_getElem? (i := 23) rfl)
  have lk13 := hts (Cond.static yX5_isPlace) (List.mem_of_getElem? (i := 22) rfl)
  have lk14 := hts (Cond.instanceMethod yX2_number) (List.mem_of_getElem? (i := 8) rfl)
  have lk15 := hts (Cond.selects RX2 yX2_number yX2_number) (List.mem_of_getElem? (i := 10) rfl)
  have hinX1 : ∀ w ∈ wsX10, w ∈ wsX1_takesEngine := by decide +kernel
  have fin : ∀ (pc : Nat) (v : Int32) (u : ST_X1) (H : Heap) (locs : List Loc) (ls : Array Slot), some (v, u) = some out → narrow .boolean (.int v) = .int v → va_P G.1 vwCl (ce_X1 G.2.1 a0 u ++ ce_X2 G.2.1 a1 S1) H → va_D A (ce_X1 G.2.1 a0 u ++ ce_X2 G.2.1 a1 S1) → va_S A s.heap H locs → decode cX1_takesEngine pc = .ok (.ireturn, 1) → W p l e (headSpec wsX1_takesEngine rm_X1_takesEngine).room s m args below meth c H locs 0 0 (MQ below (QWr G (fun u => ce_X1 G.2.1 a0 u ++ ce_X2 G.2.1 a1 S1) out A) args s 0 0 A) (F0 m pc ls [.int v]) := fun pc v u H locs ls ho hn hP hD hS hd => W.zret (v := v) hx hb hr hn (fun t ht hW => ⟨⟨v, u, rfl, ob_pair ho, by first | (rw [ht]; exact hP) | (dsimp only; rw [ht]; exact hP), hD⟩, hS.F ht⟩) hS.2.2 hd
  generalize MQ below (QWr G (fun u => ce_X1 G.2.1 a0 u ++ ce_X2 G.2.1 a1 S1) out A) args s 0 0 A = Q at fin ⊢
  have blk29 : ∀ (S0 : ST_X1), f_X1_takesEngine_b29 S1 S0 = some out → ∀ (H : Heap) (locs : List Loc), va_P G.1 vwCl (ce_X1 G.2.1 a0 S0 ++ ce_X2 G.2.1 a1 S1) H → va_D A (ce_X1 G.2.1 a0 S0 ++ ce_X2 G.2.1 a1 S1) → va_S A s.heap H locs → ∀ (ls : Array Slot), lv_has ls 6 [] → W p l e (headSpec wsX1_takesEngine rm_X1_takesEngine).room s m args below meth c H locs 0 0 Q (F0 m 29 ls []) := by
    intro S0 hf H locs hP hD hS ls hl
    rw [f_X1_takesEngine_b29] at hf
    refine lv_iconst (v := 0) hx hb dX1_takesEngine_29 (by decide) ?_
    exact fin _ _ _ _ _ _ hf rfl hP hD hS dX1_takesEngine_30
  have blk175 : ∀ (S0 : ST_X1), f_X1_takesEngine_b175 S1 S0 = some out → ∀ (H : Heap) (locs : List Loc), va_P G.1 vwCl (ce_X1 G.2.1 a0 S0 ++ ce_X2 G.2.1 a1 S1) H → va_D A (ce_X1 G.2.1 a0 S0 ++ ce_X2 G.2.1 a1 S1) → va_S A s.heap H locs → ∀ (ls : Array Slot), lv_has ls 6 [(0, .ref a0.1)] → W p l e (headSpec wsX1_takesEngine rm_X1_takesEngine).room s m args below meth c H locs 0 0 Q (F0 m 175 ls []) := by
    intro S0 hf H locs hP hD hS ls hl
    rw [f_X1_takesEngine_b175] at hf
    refine lv_aload_n hx hb dX1_takesEngine_175 rfl (lv_at hl 0 rfl) ?_
    refine lv_dup hx hb dX1_takesEngine_176 rfl ?_
    refine va_get (D := G.1) (ci := 1) (v := .int S0.2.2.2.2.2.1) (C := RX1) (T := TX1) (N := 9) hx hb hts hinX1 hown hK hP 0 rfl rfl 5 (by decide) lk1 (fun _ h9 => h9) rfl dX1_takesEngine_177 ?_
    refine lv_iconst (v := 1) hx hb dX1_takesEngine_180 (by decide) ?_
    refine lv_iadd hx hb dX1_takesEngine_181 ?_
    refine va_put (D := G.1) (ci := 1) (v := .int (S0.2.2.2.2.2.1 + 1)) (ty := .int) (C := RX1) (T := TX1) (N := 9) hx hb hts hinX1 tyX1 tyX1_ok nmX1 hown hK hP hD hS 0 rfl rfl 5 (by decide) lk1 (fun _ h9 => h9) rfl (by decide +kernel) rfl rfl (Nat.le_of_ble_eq_true rfl) dX1_takesEngine_182 (fun H locs hP hD hS => ?_)
    have hP : va_P G.1 vwCl (ce_X1 G.2.1 a0 (S0.1, S0.2.1, S0.2.2.1, S0.2.2.2.1, S0.2.2.2.2.1, S0.2.2.2.2.2.1 + 1, S0.2.2.2.2.2.2.1, S0.2.2.2.2.2.2.2.1, S0.2.2.2.2.2.2.2.2) ++ ce_X2 G.2.1 a1 S1) H := hP
    have hD : va_D A (ce_X1 G.2.1 a0 (S0.1, S0.2.1, S0.2.2.1, S0.2.2.2.1, S0.2.2.2.2.1, S0.2.2.2.2.2.1 + 1, S0.2.2.2.2.2.2.1, S0.2.2.2.2.2.2.2.1, S0.2.2.2.2.2.2.2.2) ++ ce_X2 G.2.1 a1 S1) := hD
    refine lv_iconst (v := 1) hx hb dX1_takesEngine_185 (by decide) ?_
    exact fin _ _ _ _ _ _ hf rfl hP hD hS dX1_takesEngine_186
  have blk34 : ∀ (fu34 : Nat), ∀ (S0 : ST_X1) (v2 : Int32) (v3 : Int32) (v4 : Int32), f_X1_takesEngine_b34 S1 fu34 S0 v2 v3 v4 = some out → ∀ (H : Heap) (locs : List Loc), va_P G.1 vwCl (ce_X1 G.2.1 a0 S0 ++ ce_X2 G.2.1 a1 S1) H → va_D A (ce_X1 G.2.1 a0 S0 ++ ce_X2 G.2.1 a1 S1) → va_S A s.heap H locs → ∀ (ls : Array Slot), lv_has ls 6 [(0, .ref a0.1), (1, .ref a1.1), (2, .int v2), (3, .int v3), (4, .int v4)] → W p l e (headSpec wsX1_takesEngine rm_X1_takesEngine).room s m args below meth c H locs 0 0 Q (F0 m 34 ls []) := by
    intro fu34
    induction fu34 with
    | zero => intro S0 v2 v3 v4 hf; exact ob_none hf
    | succ fu34 ih34 =>
      intro S0 v2 v3 v4 hf H locs hP hD hS ls hl
      rw [f_X1_takesEngine_b34] at hf
      have blk70 : ∀ (S0 : ST_X1) (v2 : Int32) (v3 : Int32) (v4 : Int32) (v5 : Int32), f_X1_takesEngine_b70 S1 (f_X1_takesEngine_b34 S1 fu34) S0 v2 v3 v4 v5 = some out → ∀ (H : Heap) (locs : List Loc), va_P G.1 vwCl (ce_X1 G.2.1 a0 S0 ++ ce_X2 G.2.1 a1 S1) H → va_D A (ce_X1 G.2.1 a0 S0 ++ ce_X2 G.2.1 a1 S1) → va_S A s.heap H locs → ∀ (ls : Array Slot), lv_has ls 6 [(0, .ref a0.1), (1, .ref a1.1), (2, .int v2), (3, .int v3), (4, .int v4), (5, .int v5)] → W p l e (headSpec wsX1_takesEngine rm_X1_takesEngine).room s m args below meth c H locs 0 0 Q (F0 m 70 ls []) := by
        intro S0 v2 v3 v4 v5 hf H locs hP hD hS ls hl
        rw [f_X1_takesEngine_b70] at hf
        refine lv_aload_n hx hb dX1_takesEngine_70 rfl (lv_at hl 0 rfl) ?_
        refine va_get (D := G.1) (ci := 1) (v := .ref a0.2.2.2.2.2) (C := RX1) (T := TX1) (N := 9) hx hb hts hinX1 hown hK hP 0 rfl rfl 4 (by decide) lk0 (fun _ h9 => h9) rfl dX1_takesEngine_71 ?_
        refine lv_aload_n hx hb dX1_takesEngine_74 rfl (lv_at hl 0 rfl) ?_
        refine va_get (D := G.1) (ci := 1) (v := .int S0.2.2.2.2.2.1) (C := RX1) (T := TX1) (N := 9) hx hb hts hinX1 hown hK hP 0 rfl rfl 5 (by decide) lk1 (fun _ h9 => h9) rfl dX1_takesEngine_75 ?_
        refine lv_bipush (v := 7) hx hb dX1_takesEngine_78 (by decide) ?_
        refine lv_imul hx hb dX1_takesEngine_80 ?_
        refine lv_iload hx hb dX1_takesEngine_81 (lv_at hl 4 rfl) ?_
        refine lv_iadd hx hb dX1_takesEngine_83 ?_
        refine lv_iload hx hb dX1_takesEngine_84 (lv_at hl 5 rfl) ?_
        obtain ⟨hg1, hf⟩ := ob_guard hf
        refine va_iast hx hb hK hP hD hS 5 0 rfl rfl hg1 dX1_takesEngine_86 (fun H locs hP hD hS => ?_)
        have hP : va_P G.1 vwCl (ce_X1 G.2.1 a0 (S0.1, S0.2.1, S0.2.2.1, S0.2.2.2.1, (upd S0.2.2.2.2.1 (((S0.2.2.2.2.2.1 * 7) + v4).toNatClampNeg) v5), S0.2.2.2.2.2.1, S0.2.2.2.2.2.2.1, S0.2.2.2.2.2.2.2.1, S0.2.2.2.2.2.2.2.2) ++ ce_X2 G.2.1 a1 S1) H := hP
        have hD : va_D A (ce_X1 G.2.1 a0 (S0.1, S0.2.1, S0.2.2.1, S0.2.2.2.1, (upd S0.2.2.2.2.1 (((S0.2.2.2.2.2.1 * 7) + v4).toNatClampNeg) v5), S0.2.2.2.2.2.1, S0.2.2.2.2.2.2.1, S0.2.2.2.2.2.2.2.1, S0.2.2.2.2.2.2.2.2) ++ ce_X2 G.2.1 a1 S1) := hD
        refine lv_iinc (v := v4 + 1) (lv' := [(4, .int (v4 + 1)), (0, .ref a0.1), (1, .ref a1.1), (2, .int v2), (3, .int v3), (5, .int v5)]) hx hb dX1_takesEngine_87 hl (k := 4) rfl rfl (by decide) rfl (fun ls hl => ?_)
        refine lv_goto (tgt := 34) hx hb dX1_takesEngine_90 (by decide) ?_
        exact ih34 _ _ _ _ hf _ _ hP hD hS _ (lv_sub hl [1, 2, 3, 4, 0] rfl)
      refine lv_iload hx hb dX1_takesEngine_34 (lv_at hl 4 rfl) ?_
      refine lv_bipush (v := 7) hx hb dX1_takesEngine_36 (by decide) ?_
      refine lv_icmp_ge (tgt := 93) hx hb dX1_takesEngine_38 (by decide) (fun c2 => ?_) (fun c2 => ?_)
      · replace hf := ob_pos c2 hf
        refine lv_aload_n hx hb dX1_takesEngine_93 rfl (lv_at hl 0 rfl) ?_
        refine va_get (D := G.1) (ci := 1) (v := .ref a0.2.1) (C := RX1) (T := TX1) (N := 9) hx hb hts hinX1 hown hK hP 0 rfl rfl 0 (by decide) lk2 (fun _ h9 => h9) rfl dX1_takesEngine_94 ?_
        refine lv_aload_n hx hb dX1_takesEngine_97 rfl (lv_at hl 0 rfl) ?_
        refine va_get (D := G.1) (ci := 1) (v := .int S0.2.2.2.2.2.1) (C := RX1) (T := TX1) (N := 9) hx hb hts hinX1 hown hK hP 0 rfl rfl 5 (by decide) lk1 (fun _ h9 => h9) rfl dX1_takesEngine_98 ?_
        refine lv_iload_n hx hb dX1_takesEngine_101 rfl (lv_at hl 3 rfl) ?_
        obtain ⟨hg3, hf⟩ := ob_guard hf
        refine va_iast hx hb hK hP hD hS 1 0 rfl rfl hg3 dX1_takesEngine_102 (fun H locs hP hD hS => ?_)
        have hP : va_P G.1 vwCl (ce_X1 G.2.1 a0 ((upd S0.1 (S0.2.2.2.2.2.1.toNatClampNeg) v3), S0.2.1, S0.2.2.1, S0.2.2.2.1, S0.2.2.2.2.1, S0.2.2.2.2.2.1, S0.2.2.2.2.2.2.1, S0.2.2.2.2.2.2.2.1, S0.2.2.2.2.2.2.2.2) ++ ce_X2 G.2.1 a1 S1) H := hP
        have hD : va_D A (ce_X1 G.2.1 a0 ((upd S0.1 (S0.2.2.2.2.2.1.toNatClampNeg) v3), S0.2.1, S0.2.2.1, S0.2.2.2.1, S0.2.2.2.2.1, S0.2.2.2.2.2.1, S0.2.2.2.2.2.2.1, S0.2.2.2.2.2.2.2.1, S0.2.2.2.2.2.2.2.2) ++ ce_X2 G.2.1 a1 S1) := hD
        refine lv_aload_n hx hb dX1_takesEngine_103 rfl (lv_at hl 0 rfl) ?_
        refine va_get (D := G.1) (ci := 1) (v := .ref a0.2.2.1) (C := RX1) (T := TX1) (N := 9) hx hb hts hinX1 hown hK hP 0 rfl rfl 1 (by decide) lk3 (fun _ h9 => h9) rfl dX1_takesEngine_104 ?_
        refine lv_aload_n hx hb dX1_takesEngine_107 rfl (lv_at hl 0 rfl) ?_
        refine va_get (D := G.1) (ci := 1) (v := .int S0.2.2.2.2.2.1) (C := RX1) (T := TX1) (N := 9) hx hb hts hinX1 hown hK hP 0 rfl rfl 5 (by decide) lk1 (fun _ h9 => h9) rfl dX1_takesEngine_108 ?_
        refine lv_aload_n hx hb dX1_takesEngine_111 rfl (lv_at hl 1 rfl) ?_
        refine lv_iload_n hx hb dX1_takesEngine_112 rfl (lv_at hl 2 rfl) ?_
        refine lv_iconst (v := 3) hx hb dX1_takesEngine_113 (by decide) ?_
        refine lv_iadd hx hb dX1_takesEngine_114 ?_
        obtain ⟨r4, hr4, hf⟩ := ob_bind hf
        have hPc : va_P G.1 vwCl (ce_X2 G.2.1 a1 S1) H := hP.sub [6, 7] rfl
        have hDc : va_D A (ce_X2 G.2.1 a1 S1) := hD.sub [6, 7] (by decide) rfl
        have hFc := va_free (wc := ce_X2 G.2.1 a1 S1) hD hS hA [6, 7] rfl
        refine zc_ro (va_runVN (As := [.int (v2 + 3)]) (rest := [.int S0.2.2.2.2.2.1, .ref a0.2.2.1]) ⟨hx, hb, hml, hown, hts⟩ (c_X2_kind l G a1 H.size S1 (v2 + 3) _ hr4) (⟨va_cnB 1 hts gX1_takesEngine_X2_kind_n80 rfl rfl rfl (hE.1 _ nw_35) lk4 (by decide +kernel) ⟨Nat.le_of_ble_eq_true rfl, Nat.le_of_ble_eq_true rfl⟩, lk5, lk6⟩) ⟨PcM.blind, va_recv hK hPc (ci := 2) (q0 := 0) rfl rfl, PcM.ok hPc hDc hK hE hS hFc⟩ rfl rfl hl.1 rfl (lv_room (Nat.le_of_ble_eq_true rfl)) dX1_takesEngine_115 ⟨Nat.le_refl _, Nat.le_refl _⟩) hP hD hS hA [6, 7] rfl (fun H locs hP hS => ?_)
        obtain ⟨hg5, hf⟩ := ob_guard hf
        refine va_iast hx hb hK hP hD hS 2 0 rfl rfl hg5 dX1_takesEngine_118 (fun H locs hP hD hS => ?_)
        have hP : va_P G.1 vwCl (ce_X1 G.2.1 a0 ((upd S0.1 (S0.2.2.2.2.2.1.toNatClampNeg) v3), (upd S0.2.1 (S0.2.2.2.2.2.1.toNatClampNeg) r4), S0.2.2.1, S0.2.2.2.1, S0.2.2.2.2.1, S0.2.2.2.2.2.1, S0.2.2.2.2.2.2.1, S0.2.2.2.2.2.2.2.1, S0.2.2.2.2.2.2.2.2) ++ ce_X2 G.2.1 a1 S1) H := hP
        have hD : va_D A (ce_X1 G.2.1 a0 ((upd S0.1 (S0.2.2.2.2.2.1.toNatClampNeg) v3), (upd S0.2.1 (S0.2.2.2.2.2.1.toNatClampNeg) r4), S0.2.2.1, S0.2.2.2.1, S0.2.2.2.2.1, S0.2.2.2.2.2.1, S0.2.2.2.2.2.2.1, S0.2.2.2.2.2.2.2.1, S0.2.2.2.2.2.2.2.2) ++ ce_X2 G.2.1 a1 S1) := hD
        refine lv_aload_n hx hb dX1_takesEngine_119 rfl (lv_at hl 0 rfl) ?_
        refine va_get (D := G.1) (ci := 1) (v := .ref a0.2.2.2.1) (C := RX1) (T := TX1) (N := 9) hx hb hts hinX1 hown hK hP 0 rfl rfl 2 (by decide) lk7 (fun _ h9 => h9) rfl dX1_takesEngine_120 ?_
        refine lv_aload_n hx hb dX1_takesEngine_123 rfl (lv_at hl 0 rfl) ?_
        refine va_get (D := G.1) (ci := 1) (v := .int S0.2.2.2.2.2.1) (C := RX1) (T := TX1) (N := 9) hx hb hts hinX1 hown hK hP 0 rfl rfl 5 (by decide) lk1 (fun _ h9 => h9) rfl dX1_takesEngine_124 ?_
        refine lv_aload_n hx hb dX1_takesEngine_127 rfl (lv_at hl 1 rfl) ?_
        refine lv_iload_n hx hb dX1_takesEngine_128 rfl (lv_at hl 2 rfl) ?_
        refine lv_iconst (v := 4) hx hb dX1_takesEngine_129 (by decide) ?_
        refine lv_iadd hx hb dX1_takesEngine_130 ?_
        obtain ⟨r6, hr6, hf⟩ := ob_bind hf
        have hPc : va_P G.1 vwCl (ce_X2 G.2.1 a1 S1) H := hP.sub [6, 7] rfl
        have hDc : va_D A (ce_X2 G.2.1 a1 S1) := hD.sub [6, 7] (by decide) rfl
        have hFc := va_free (wc := ce_X2 G.2.1 a1 S1) hD hS hA [6, 7] rfl
        refine zc_ro (va_runVN (As := [.int (v2 + 4)]) (rest := [.int S0.2.2.2.2.2.1, .ref a0.2.2.2.1]) ⟨hx, hb, hml, hown, hts⟩ (c_X2_digit l G a1 H.size S1 (v2 + 4) _ hr6) (⟨va_cnB 1 hts gX1_takesEngine_X2_digit_n74 rfl rfl rfl (hE.1 _ nw_33) lk4 (by decide +kernel) ⟨Nat.le_of_ble_eq_true rfl, Nat.le_of_ble_eq_true rfl⟩, lk8, lk9⟩) ⟨PcM.blind, va_recv hK hPc (ci := 2) (q0 := 0) rfl rfl, PcM.ok hPc hDc hK hE hS hFc⟩ rfl rfl hl.1 rfl (lv_room (Nat.le_of_ble_eq_true rfl)) dX1_takesEngine_131 ⟨Nat.le_refl _, Nat.le_refl _⟩) hP hD hS hA [6, 7] rfl (fun H locs hP hS => ?_)
        obtain ⟨hg7, hf⟩ := ob_guard hf
        refine va_iast hx hb hK hP hD hS 3 0 rfl rfl hg7 dX1_takesEngine_134 (fun H locs hP hD hS => ?_)
        have hP : va_P G.1 vwCl (ce_X1 G.2.1 a0 ((upd S0.1 (S0.2.2.2.2.2.1.toNatClampNeg) v3), (upd S0.2.1 (S0.2.2.2.2.2.1.toNatClampNeg) r4), (upd S0.2.2.1 (S0.2.2.2.2.2.1.toNatClampNeg) r6), S0.2.2.2.1, S0.2.2.2.2.1, S0.2.2.2.2.2.1, S0.2.2.2.2.2.2.1, S0.2.2.2.2.2.2.2.1, S0.2.2.2.2.2.2.2.2) ++ ce_X2 G.2.1 a1 S1) H := hP
        have hD : va_D A (ce_X1 G.2.1 a0 ((upd S0.1 (S0.2.2.2.2.2.1.toNatClampNeg) v3), (upd S0.2.1 (S0.2.2.2.2.2.1.toNatClampNeg) r4), (upd S0.2.2.1 (S0.2.2.2.2.2.1.toNatClampNeg) r6), S0.2.2.2.1, S0.2.2.2.2.1, S0.2.2.2.2.2.1, S0.2.2.2.2.2.2.1, S0.2.2.2.2.2.2.2.1, S0.2.2.2.2.2.2.2.2) ++ ce_X2 G.2.1 a1 S1) := hD
        refine lv_aload_n hx hb dX1_takesEngine_135 rfl (lv_at hl 0 rfl) ?_
        refine va_get (D := G.1) (ci := 1) (v := .ref a0.2.2.2.2.1) (C := RX1) (T := TX1) (N := 9) hx hb hts hinX1 hown hK hP 0 rfl rfl 3 (by decide) lk10 (fun _ h9 => h9) rfl dX1_takesEngine_136 ?_
        refine lv_aload_n hx hb dX1_takesEngine_139 rfl (lv_at hl 0 rfl) ?_
        refine va_get (D := G.1) (ci := 1) (v := .int S0.2.2.2.2.2.1) (C := RX1) (T := TX1) (N := 9) hx hb hts hinX1 hown hK hP 0 rfl rfl 5 (by decide) lk1 (fun _ h9 => h9) rfl dX1_takesEngine_140 ?_
        refine lv_bipush (v := (-9)) hx hb dX1_takesEngine_143 (by decide) ?_
        obtain ⟨hg8, hf⟩ := ob_guard hf
        refine va_iast hx hb hK hP hD hS 4 0 rfl rfl hg8 dX1_takesEngine_145 (fun H locs hP hD hS => ?_)
        have hP : va_P G.1 vwCl (ce_X1 G.2.1 a0 ((upd S0.1 (S0.2.2.2.2.2.1.toNatClampNeg) v3), (upd S0.2.1 (S0.2.2.2.2.2.1.toNatClampNeg) r4), (upd S0.2.2.1 (S0.2.2.2.2.2.1.toNatClampNeg) r6), (upd S0.2.2.2.1 (S0.2.2.2.2.2.1.toNatClampNeg) (-9)), S0.2.2.2.2.1, S0.2.2.2.2.2.1, S0.2.2.2.2.2.2.1, S0.2.2.2.2.2.2.2.1, S0.2.2.2.2.2.2.2.2) ++ ce_X2 G.2.1 a1 S1) H := hP
        have hD : va_D A (ce_X1 G.2.1 a0 ((upd S0.1 (S0.2.2.2.2.2.1.toNatClampNeg) v3), (upd S0.2.1 (S0.2.2.2.2.2.1.toNatClampNeg) r4), (upd S0.2.2.1 (S0.2.2.2.2.2.1.toNatClampNeg) r6), (upd S0.2.2.2.1 (S0.2.2.2.2.2.1.toNatClampNeg) (-9)), S0.2.2.2.2.1, S0.2.2.2.2.2.1, S0.2.2.2.2.2.2.1, S0.2.2.2.2.2.2.2.1, S0.2.2.2.2.2.2.2.2) ++ ce_X2 G.2.1 a1 S1) := hD
        refine lv_aload_n hx hb dX1_takesEngine_146 rfl (lv_at hl 0 rfl) ?_
        refine va_get (D := G.1) (ci := 1) (v := .ref a0.2.2.1) (C := RX1) (T := TX1) (N := 9) hx hb hts hinX1 hown hK hP 0 rfl rfl 1 (by decide) lk3 (fun _ h9 => h9) rfl dX1_takesEngine_147 ?_
        refine lv_aload_n hx hb dX1_takesEngine_150 rfl (lv_at hl 0 rfl) ?_
        refine va_get (D := G.1) (ci := 1) (v := .int S0.2.2.2.2.2.1) (C := RX1) (T := TX1) (N := 9) hx hb hts hinX1 hown hK hP 0 rfl rfl 5 (by decide) lk1 (fun _ h9 => h9) rfl dX1_takesEngine_151 ?_
        obtain ⟨hg9, hf⟩ := ob_guard hf
        refine va_iald hx hb hK hP 2 0 rfl rfl hg9 dX1_takesEngine_154 ?_
        refine lv_bipush (v := 6) hx hb dX1_takesEngine_155 (by decide) ?_
        refine lv_icmp_ne (tgt := 175) hx hb dX1_takesEngine_157 (by decide) (fun c10 => ?_) (fun c10 => ?_)
        · replace hf := ob_neg c10 hf
          exact blk175 _ hf _ _ hP hD hS _ (lv_sub hl [0] rfl)
        · replace hf := ob_pos c10 hf
          refine lv_aload_n hx hb dX1_takesEngine_160 rfl (lv_at hl 0 rfl) ?_
          refine lv_dup hx hb dX1_takesEngine_161 rfl ?_
          refine va_get (D := G.1) (ci := 1) (v := .int S0.2.2.2.2.2.2.1) (C := RX1) (T := TX1) (N := 9) hx hb hts hinX1 hown hK hP 0 rfl rfl 6 (by decide) lk11 (fun _ h9 => h9) rfl dX1_takesEngine_162 ?_
          refine lv_iconst (v := 1) hx hb dX1_takesEngine_165 (by decide) ?_
          refine lv_aload_n hx hb dX1_takesEngine_166 rfl (lv_at hl 0 rfl) ?_
          refine va_get (D := G.1) (ci := 1) (v := .int S0.2.2.2.2.2.1) (C := RX1) (T := TX1) (N := 9) hx hb hts hinX1 hown hK hP 0 rfl rfl 5 (by decide) lk1 (fun _ h9 => h9) rfl dX1_takesEngine_167 ?_
          refine lv_ishl hx hb dX1_takesEngine_170 ?_
          refine lv_ior hx hb dX1_takesEngine_171 ?_
          refine va_put (D := G.1) (ci := 1) (v := .int (S0.2.2.2.2.2.2.1 ||| (1 <<< (S0.2.2.2.2.2.1 &&& 31)))) (ty := .int) (C := RX1) (T := TX1) (N := 9) hx hb hts hinX1 tyX1 tyX1_ok nmX1 hown hK hP hD hS 0 rfl rfl 6 (by decide) lk11 (fun _ h9 => h9) rfl (by decide +kernel) rfl rfl (Nat.le_of_ble_eq_true rfl) dX1_takesEngine_172 (fun H locs hP hD hS => ?_)
          have hP : va_P G.1 vwCl (ce_X1 G.2.1 a0 ((upd S0.1 (S0.2.2.2.2.2.1.toNatClampNeg) v3), (upd S0.2.1 (S0.2.2.2.2.2.1.toNatClampNeg) r4), (upd S0.2.2.1 (S0.2.2.2.2.2.1.toNatClampNeg) r6), (upd S0.2.2.2.1 (S0.2.2.2.2.2.1.toNatClampNeg) (-9)), S0.2.2.2.2.1, S0.2.2.2.2.2.1, S0.2.2.2.2.2.2.1 ||| (1 <<< (S0.2.2.2.2.2.1 &&& 31)), S0.2.2.2.2.2.2.2.1, S0.2.2.2.2.2.2.2.2) ++ ce_X2 G.2.1 a1 S1) H := hP
          have hD : va_D A (ce_X1 G.2.1 a0 ((upd S0.1 (S0.2.2.2.2.2.1.toNatClampNeg) v3), (upd S0.2.1 (S0.2.2.2.2.2.1.toNatClampNeg) r4), (upd S0.2.2.1 (S0.2.2.2.2.2.1.toNatClampNeg) r6), (upd S0.2.2.2.1 (S0.2.2.2.2.2.1.toNatClampNeg) (-9)), S0.2.2.2.2.1, S0.2.2.2.2.2.1, S0.2.2.2.2.2.2.1 ||| (1 <<< (S0.2.2.2.2.2.1 &&& 31)), S0.2.2.2.2.2.2.2.1, S0.2.2.2.2.2.2.2.2) ++ ce_X2 G.2.1 a1 S1) := hD
          exact blk175 _ hf _ _ hP hD hS _ (lv_sub hl [0] rfl)
      · replace hf := ob_neg c2 hf
        refine lv_aload_n hx hb dX1_takesEngine_41 rfl (lv_at hl 1 rfl) ?_
        refine lv_iload_n hx hb dX1_takesEngine_42 rfl (lv_at hl 2 rfl) ?_
        refine lv_iconst (v := 5) hx hb dX1_takesEngine_43 (by decide) ?_
        refine lv_iadd hx hb dX1_takesEngine_44 ?_
        refine lv_iload hx hb dX1_takesEngine_45 (lv_at hl 4 rfl) ?_
        refine lv_iadd hx hb dX1_takesEngine_47 ?_
        obtain ⟨r11, hr11, hf⟩ := ob_bind hf
        have hPc : va_P G.1 vwCl (ce_X2 G.2.1 a1 S1) H := hP.sub [6, 7] rfl
        have hDc : va_D A (ce_X2 G.2.1 a1 S1) := hD.sub [6, 7] (by decide) rfl
        have hFc := va_free (wc := ce_X2 G.2.1 a1 S1) hD hS hA [6, 7] rfl
        refine zc_ro (va_runVN (As := [.int ((v2 + 5) + v4)]) (rest := []) ⟨hx, hb, hml, hown, hts⟩ (c_X2_digit l G a1 H.size S1 ((v2 + 5) + v4) _ hr11) (⟨va_cnB 1 hts gX1_takesEngine_X2_digit_n74 rfl rfl rfl (hE.1 _ nw_33) lk4 (by decide +kernel) ⟨Nat.le_of_ble_eq_true rfl, Nat.le_of_ble_eq_true rfl⟩, lk8, lk9⟩) ⟨PcM.blind, va_recv hK hPc (ci := 2) (q0 := 0) rfl rfl, PcM.ok hPc hDc hK hE hS hFc⟩ rfl rfl hl.1 rfl (lv_room (Nat.le_of_ble_eq_true rfl)) dX1_takesEngine_48 ⟨Nat.le_refl _, Nat.le_refl _⟩) hP hD hS hA [6, 7] rfl (fun H locs hP hS => ?_)
        refine lv_istore (lv' := [(5, .int r11), (0, .ref a0.1), (1, .ref a1.1), (2, .int v2), (3, .int v3), (4, .int v4)]) hx hb dX1_takesEngine_51 hl (by decide) rfl (fun ls hl => ?_)
        refine lv_iload hx hb dX1_takesEngine_53 (lv_at hl 0 rfl) ?_
        obtain ⟨r12, hr12, hf⟩ := ob_bind hf
        have hPc : va_P G.1 vwCl (([] : va_W)) H := hP.sub [] rfl
        have hDc : va_D A (([] : va_W)) := hD.sub [] (by decide) rfl
        have hFc := va_free (wc := ([] : va_W)) hD hS hA [] rfl
        refine zc_ro (va_runSN (As := [.int r11]) (rest := []) ⟨hx, hb, hml, hown, hts⟩ (c_X5_isPlace l G H.size r11 _ hr12) (⟨va_cnB 1 hts gX1_takesEngine_X5_isPlace_n77 rfl rfl rfl (hE.1 _ nw_34) lk12 (by decide +kernel) ⟨Nat.le_of_ble_eq_true rfl, Nat.le_of_ble_eq_true rfl⟩, lk13, trivial⟩) ⟨PcM.blind, PcM.ok hPc hDc hK hE hS hFc⟩ rfl rfl hl.1 rfl (lv_room (Nat.le_of_ble_eq_true rfl)) dX1_takesEngine_55 ⟨Nat.le_refl _, Nat.le_refl _⟩) hP hD hS hA [] rfl (fun H locs hP hS => ?_)
        refine lv_if_ne (tgt := 70) hx hb dX1_takesEngine_58 (by decide) (fun c13 => ?_) (fun c13 => ?_)
        · replace hf := ob_neg c13 hf
          exact blk70 _ _ _ _ _ hf _ _ hP hD hS _ (lv_sub hl [1, 2, 3, 4, 5, 0] rfl)
        · replace hf := ob_pos c13 hf
          refine lv_iload hx hb dX1_takesEngine_61 (lv_at hl 0 rfl) ?_
          refine lv_bipush (v := 9) hx hb dX1_takesEngine_63 (by decide) ?_
          refine lv_icmp_eq (tgt := 70) hx hb dX1_takesEngine_65 (by decide) (fun c14 => ?_) (fun c14 => ?_)
          · replace hf := ob_pos c14 hf
            exact blk70 _ _ _ _ _ hf _ _ hP hD hS _ (lv_sub hl [1, 2, 3, 4, 5, 0] rfl)
          · replace hf := ob_neg c14 hf
            refine lv_iconst (v := 0) hx hb dX1_takesEngine_68 (by decide) ?_
            exact fin _ _ _ _ _ _ hf rfl hP hD hS dX1_takesEngine_69
  have go : ∀ (H : Heap) (locs : List Loc), va_P G.1 vwCl (ce_X1 G.2.1 a0 S0 ++ ce_X2 G.2.1 a1 S1) H → va_D A (ce_X1 G.2.1 a0 S0 ++ ce_X2 G.2.1 a1 S1) → va_S A s.heap H locs → ∀ (ls : Array Slot), lv_has ls 6 [(0, .ref a0.1), (1, .ref a1.1), (2, .int p2)] → W p l e (headSpec wsX1_takesEngine rm_X1_takesEngine).room s m args below meth c H locs 0 0 Q (F0 m 0 ls []) := by
    intro H locs hP hD hS ls hl
    refine lv_aload_n hx hb dX1_takesEngine_0 rfl (lv_at hl 1 rfl) ?_
    refine lv_iload_n hx hb dX1_takesEngine_1 rfl (lv_at hl 2 rfl) ?_
    refine lv_iconst (v := 1) hx hb dX1_takesEngine_2 (by decide) ?_
    refine lv_iadd hx hb dX1_takesEngine_3 ?_
    obtain ⟨r15, hr15, hf⟩ := ob_bind hf
    have hPc : va_P G.1 vwCl (ce_X2 G.2.1 a1 S1) H := hP.sub [6, 7] rfl
    have hDc : va_D A (ce_X2 G.2.1 a1 S1) := hD.sub [6, 7] (by decide) rfl
    have hFc := va_free (wc := ce_X2 G.2.1 a1 S1) hD hS hA [6, 7] rfl
    refine zc_ro (va_runVN (As := [.int (p2 + 1)]) (rest := []) ⟨hx, hb, hml, hown, hts⟩ (c_X2_number l G a1 H.size S1 (p2 + 1) _ hr15) (⟨va_cnB 1 hts gX1_takesEngine_X2_number_n54 rfl rfl rfl (hE.1 _ nw_31) lk4 (by decide +kernel) ⟨Nat.le_of_ble_eq_true rfl, Nat.le_of_ble_eq_true rfl⟩, lk14, lk15⟩) ⟨PcM.blind, va_recv hK hPc (ci := 2) (q0 := 0) rfl rfl, PcM.ok hPc hDc hK hE hS hFc⟩ rfl rfl hl.1 rfl (lv_room (Nat.le_of_ble_eq_true rfl)) dX1_takesEngine_4 ⟨Nat.le_refl _, Nat.le_refl _⟩) hP hD hS hA [6, 7] rfl (fun H locs hP hS => ?_)
    refine lv_istore_n (lv' := [(3, .int r15), (0, .ref a0.1), (1, .ref a1.1), (2, .int p2)]) hx hb dX1_takesEngine_7 rfl hl (by decide) rfl (fun ls hl => ?_)
    refine lv_aload_n hx hb dX1_takesEngine_8 rfl (lv_at hl 1 rfl) ?_
    refine va_get (D := G.1) (ci := 1) (v := .int S0.2.2.2.2.2.1) (C := RX1) (T := TX1) (N := 9) hx hb hts hinX1 hown hK hP 0 rfl rfl 5 (by decide) lk1 (fun _ h9 => h9) rfl dX1_takesEngine_9 ?_
    refine lv_bipush (v := 7) hx hb dX1_takesEngine_12 (by decide) ?_
    refine lv_icmp_ge (tgt := 29) hx hb dX1_takesEngine_14 (by decide) (fun c16 => ?_) (fun c16 => ?_)
    · replace hf := ob_pos c16 hf
      exact blk29 _ hf _ _ hP hD hS _ (lv_sub hl [] rfl)
    · replace hf := ob_neg c16 hf
      refine lv_iload_n hx hb dX1_takesEngine_17 rfl (lv_at hl 0 rfl) ?_
      refine lv_bipush (v := 10) hx hb dX1_takesEngine_18 (by decide) ?_
      refine lv_icmp_lt (tgt := 29) hx hb dX1_takesEngine_20 (by decide) (fun c17 => ?_) (fun c17 => ?_)
      · replace hf := ob_pos c17 hf
        exact blk29 _ hf _ _ hP hD hS _ (lv_sub hl [] rfl)
      · replace hf := ob_neg c17 hf
        refine lv_iload_n hx hb dX1_takesEngine_23 rfl (lv_at hl 0 rfl) ?_
        refine lv_bipush (v := 99) hx hb dX1_takesEngine_24 (by decide) ?_
        refine lv_icmp_le (tgt := 31) hx hb dX1_takesEngine_26 (by decide) (fun c18 => ?_) (fun c18 => ?_)
        · replace hf := ob_pos c18 hf
          refine lv_iconst (v := 0) hx hb dX1_takesEngine_31 (by decide) ?_
          refine lv_istore (lv' := [(4, .int 0), (3, .int r15), (0, .ref a0.1), (1, .ref a1.1), (2, .int p2)]) hx hb dX1_takesEngine_32 hl (by decide) rfl (fun ls hl => ?_)
          exact blk34 4096 _ _ _ _ hf _ _ hP hD hS _ (lv_sub hl [2, 3, 4, 1, 0] rfl)
        · replace hf := ob_neg c18 hf
          exact blk29 _ hf _ _ hP hD hS _ (lv_sub hl [] rfl)
  exact go _ _ hP hD hS _ hl
abbrev rm_X1_joins : Room := { frames := 2, cells := 0, slots := 0, locals := 45 }
set_option maxHeartbeats 4000000 in
set_option maxRecDepth 100000 in
theorem c_X1_joins (l : Launch) (G : zG) (a0 : AT_X1) (sz : Nat) (S0 : ST_X1) (p1 : Int32) (p2 : Int32) (out : Int32 × ST_X1) (hf : f_X1_joins S0 p1 p2 = some out) : Met l yX1_joins wsX1_joins rm_X1_joins (PcM G (ce_X1 G.2.1 a0 S0) [.ref a0.1, .int p1, .int p2] sz) (QWr G (fun u => ce_X1 G.2.1 a0 u) out (va_A (ce_X1 G.2.1 a0 S0) sz)) 0 0 (va_A (ce_X1 G.2.1 a0 S0) sz) := by
  rw [f_X1_joins] at hf
  refine Met.ofW (cc := cX1_joins) (maxL := 3) (ret := (some .boolean)) (by decide) rfl ?_
  intro p e s m args below meth c s₁ B hml hv
  obtain ⟨hargs, hsz, hP, hK, hD0, hE⟩ := hv
  have hx := B.exec
  have hb := B.bytes
  have hr := B.returns
  have hts := atoms_spec (ws := wsX1_joins) B.pre
  have hown : s.vm.findClass RX1 = some m.cls := findClass_of_methodNamed B.named
  have hlocks := B.notSynchronized
  subst hsz
  have hD := hD0.self (sz := s.heap.size)
  generalize hAe : va_A (ce_X1 G.2.1 a0 S0) s.heap.size = A at hD hE ⊢
  have hA : ∀ q : Nat, s.heap.size ≤ q → A q := fun q h => by rw [← hAe]; exact Or.inr h
  have hS : va_S A s.heap s.heap [] := va_S.rf
  have hl := lv_entry ([.ref a0.1, .int p1, .int p2]) (n := 3) (Nat.le_of_ble_eq_true rfl)
  have hent : entryFrame m args 3 = F0 m 0 ((lg_sl ([.ref a0.1, .int p1, .int p2]) ++ List.replicate (3 - (lg_sl ([.ref a0.1, .int p1, .int p2])).length) Slot.unset).toArray) [] := by rw [hargs, lg_entry_eq]
  rw [hent]
  clear hent
  generalize (lg_sl ([.ref a0.1, .int p1, .int p2]) ++ List.replicate (3 - (lg_sl ([.ref a0.1, .int p1, .int p2])).length) Slot.unset).toArray = ls at hl ⊢
  have hl : lv_has ls 3 [(0, .ref a0.1), (1, .int p1), (2, .int p2)] := hl
  have lk0 := hts (Cond.fieldLink RX1 21 "EnginesOnList$Fleet" "joined" "[I") (List.mem_of_getElem? (i := 1) rfl)
  have hinX1 : ∀ w ∈ wsX10, w ∈ wsX1_joins := by decide +kernel
  have fin : ∀ (pc : Nat) (v : Int32) (u : ST_X1) (H : Heap) (locs : List Loc) (ls : Array Slot), some (v, u) = some out → narrow .boolean (.int v) = .int v → va_P G.1 vwCl (ce_X1 G.2.1 a0 u) H → va_D A (ce_X1 G.2.1 a0 u) → va_S A s.heap H locs → decode cX1_joins pc = .ok (.ireturn, 1) → W p l e (headSpec wsX1_joins rm_X1_joins).room s m args below meth c H locs 0 0 (MQ below (QWr G (fun u => ce_X1 G.2.1 a0 u) out A) args s 0 0 A) (F0 m pc ls [.int v]) := fun pc v u H locs ls ho hn hP hD hS hd => W.zret (v := v) hx hb hr hn (fun t ht hW => ⟨⟨v, u, rfl, ob_pair ho, by first | (rw [ht]; exact hP) | (dsimp only; rw [ht]; exact hP), hD⟩, hS.F ht⟩) hS.2.2 hd
  generalize MQ below (QWr G (fun u => ce_X1 G.2.1 a0 u) out A) args s 0 0 A = Q at fin ⊢
  have blk43 : ∀ (S0 : ST_X1), f_X1_joins_b43 S0 = some out → ∀ (H : Heap) (locs : List Loc), va_P G.1 vwCl (ce_X1 G.2.1 a0 S0) H → va_D A (ce_X1 G.2.1 a0 S0) → va_S A s.heap H locs → ∀ (ls : Array Slot), lv_has ls 3 [] → W p l e (headSpec wsX1_joins rm_X1_joins).room s m args below meth c H locs 0 0 Q (F0 m 43 ls []) := by
    intro S0 hf H locs hP hD hS ls hl
    rw [f_X1_joins_b43] at hf
    refine lv_iconst (v := 0) hx hb dX1_joins_43 (by decide) ?_
    exact fin _ _ _ _ _ _ hf rfl hP hD hS dX1_joins_44
  have go : ∀ (H : Heap) (locs : List Loc), va_P G.1 vwCl (ce_X1 G.2.1 a0 S0) H → va_D A (ce_X1 G.2.1 a0 S0) → va_S A s.heap H locs → ∀ (ls : Array Slot), lv_has ls 3 [(0, .ref a0.1), (1, .int p1), (2, .int p2)] → W p l e (headSpec wsX1_joins rm_X1_joins).room s m args below meth c H locs 0 0 Q (F0 m 0 ls []) := by
    intro H locs hP hD hS ls hl
    refine lv_aload_n hx hb dX1_joins_0 rfl (lv_at hl 0 rfl) ?_
    refine lv_iload_n hx hb dX1_joins_1 rfl (lv_at hl 1 rfl) ?_
    obtain ⟨r1, hr1, hf⟩ := ob_bind hf
    have hFc := va_free (wc := ce_X1 G.2.1 a0 S0) hD hS hA [0, 1, 2, 3, 4, 5] rfl
    refine zc_ro (va_runV (As := [.int p1]) (rest := []) ⟨hx, hb, hml, hown, hts⟩ (c_X1_knows l G a0 H.size S0 p1 _ hr1) (cwV 1 hts gX1_joins_X1_knows rfl rfl rfl (by decide +kernel) ⟨Nat.le_of_ble_eq_true rfl, Nat.le_of_ble_eq_true rfl⟩) ⟨PcM.blind, va_recv hK hP (ci := 1) (q0 := 0) rfl rfl, PcM.ok hP hD hK hE hS hFc⟩ rfl rfl hl.1 rfl (lv_room (Nat.le_of_ble_eq_true rfl)) dX1_joins_2 ⟨Nat.le_refl _, Nat.le_refl _⟩) hP hD hS hA [0, 1, 2, 3, 4, 5] rfl (fun H locs hP hS => ?_)
    refine lv_if_eq (tgt := 43) hx hb dX1_joins_5 (by decide) (fun c2 => ?_) (fun c2 => ?_)
    · replace hf := ob_pos c2 hf
      exact blk43 _ hf _ _ hP hD hS _ (lv_sub hl [] rfl)
    · replace hf := ob_neg c2 hf
      refine lv_aload_n hx hb dX1_joins_8 rfl (lv_at hl 0 rfl) ?_
      refine lv_iload_n hx hb dX1_joins_9 rfl (lv_at hl 2 rfl) ?_
      obtain ⟨r3, hr3, hf⟩ := ob_bind hf
      have hFc := va_free (wc := ce_X1 G.2.1 a0 S0) hD hS hA [0, 1, 2, 3, 4, 5] rfl
      refine zc_ro (va_runV (As := [.int p2]) (rest := []) ⟨hx, hb, hml, hown, hts⟩ (c_X1_knows l G a0 H.size S0 p2 _ hr3) (cwV 1 hts gX1_joins_X1_knows rfl rfl rfl (by decide +kernel) ⟨Nat.le_of_ble_eq_true rfl, Nat.le_of_ble_eq_true rfl⟩) ⟨PcM.blind, va_recv hK hP (ci := 1) (q0 := 0) rfl rfl, PcM.ok hP hD hK hE hS hFc⟩ rfl rfl hl.1 rfl (lv_room (Nat.le_of_ble_eq_true rfl)) dX1_joins_10 ⟨Nat.le_refl _, Nat.le_refl _⟩) hP hD hS hA [0, 1, 2, 3, 4, 5] rfl (fun H locs hP hS => ?_)
      refine lv_if_eq (tgt := 43) hx hb dX1_joins_13 (by decide) (fun c4 => ?_) (fun c4 => ?_)
      · replace hf := ob_pos c4 hf
        exact blk43 _ hf _ _ hP hD hS _ (lv_sub hl [] rfl)
      · replace hf := ob_neg c4 hf
        refine lv_iload_n hx hb dX1_joins_16 rfl (lv_at hl 1 rfl) ?_
        refine lv_iload_n hx hb dX1_joins_17 rfl (lv_at hl 2 rfl) ?_
        refine lv_icmp_eq (tgt := 43) hx hb dX1_joins_18 (by decide) (fun c5 => ?_) (fun c5 => ?_)
        · replace hf := ob_pos c5 hf
          exact blk43 _ hf _ _ hP hD hS _ (lv_sub hl [] rfl)
        · replace hf := ob_neg c5 hf
          refine lv_aload_n hx hb dX1_joins_21 rfl (lv_at hl 0 rfl) ?_
          refine va_get (D := G.1) (ci := 1) (v := .ref a0.2.2.2.2.1) (C := RX1) (T := TX1) (N := 9) hx hb hts hinX1 hown hK hP 0 rfl rfl 3 (by decide) lk0 (fun _ h9 => h9) rfl dX1_joins_22 ?_
          refine lv_iload_n hx hb dX1_joins_25 rfl (lv_at hl 1 rfl) ?_
          obtain ⟨hg6, hf⟩ := ob_guard hf
          refine va_iald hx hb hK hP 4 0 rfl rfl hg6 dX1_joins_26 ?_
          refine lv_bipush (v := (-9)) hx hb dX1_joins_27 (by decide) ?_
          refine lv_icmp_ne (tgt := 43) hx hb dX1_joins_29 (by decide) (fun c7 => ?_) (fun c7 => ?_)
          · replace hf := ob_neg c7 hf
            exact blk43 _ hf _ _ hP hD hS _ (lv_sub hl [] rfl)
          · replace hf := ob_pos c7 hf
            refine lv_aload_n hx hb dX1_joins_32 rfl (lv_at hl 0 rfl) ?_
            refine va_get (D := G.1) (ci := 1) (v := .ref a0.2.2.2.2.1) (C := RX1) (T := TX1) (N := 9) hx hb hts hinX1 hown hK hP 0 rfl rfl 3 (by decide) lk0 (fun _ h9 => h9) rfl dX1_joins_33 ?_
            refine lv_iload_n hx hb dX1_joins_36 rfl (lv_at hl 2 rfl) ?_
            obtain ⟨hg8, hf⟩ := ob_guard hf
            refine va_iald hx hb hK hP 4 0 rfl rfl hg8 dX1_joins_37 ?_
            refine lv_bipush (v := (-9)) hx hb dX1_joins_38 (by decide) ?_
            refine lv_icmp_eq (tgt := 45) hx hb dX1_joins_40 (by decide) (fun c9 => ?_) (fun c9 => ?_)
            · replace hf := ob_pos c9 hf
              refine lv_aload_n hx hb dX1_joins_45 rfl (lv_at hl 0 rfl) ?_
              refine va_get (D := G.1) (ci := 1) (v := .ref a0.2.2.2.2.1) (C := RX1) (T := TX1) (N := 9) hx hb hts hinX1 hown hK hP 0 rfl rfl 3 (by decide) lk0 (fun _ h9 => h9) rfl dX1_joins_46 ?_
              refine lv_iload_n hx hb dX1_joins_49 rfl (lv_at hl 1 rfl) ?_
              refine lv_iload_n hx hb dX1_joins_50 rfl (lv_at hl 2 rfl) ?_
              obtain ⟨hg10, hf⟩ := ob_guard hf
              refine va_iast hx hb hK hP hD hS 4 0 rfl rfl hg10 dX1_joins_51 (fun H locs hP hD hS => ?_)
              have hP : va_P G.1 vwCl (ce_X1 G.2.1 a0 (S0.1, S0.2.1, S0.2.2.1, (upd S0.2.2.2.1 (p1.toNatClampNeg) p2), S0.2.2.2.2.1, S0.2.2.2.2.2.1, S0.2.2.2.2.2.2.1, S0.2.2.2.2.2.2.2.1, S0.2.2.2.2.2.2.2.2)) H := hP
              have hD : va_D A (ce_X1 G.2.1 a0 (S0.1, S0.2.1, S0.2.2.1, (upd S0.2.2.2.1 (p1.toNatClampNeg) p2), S0.2.2.2.2.1, S0.2.2.2.2.2.1, S0.2.2.2.2.2.2.1, S0.2.2.2.2.2.2.2.1, S0.2.2.2.2.2.2.2.2)) := hD
              refine lv_aload_n hx hb dX1_joins_52 rfl (lv_at hl 0 rfl) ?_
              refine va_get (D := G.1) (ci := 1) (v := .ref a0.2.2.2.2.1) (C := RX1) (T := TX1) (N := 9) hx hb hts hinX1 hown hK hP 0 rfl rfl 3 (by decide) lk0 (fun _ h9 => h9) rfl dX1_joins_53 ?_
              refine lv_iload_n hx hb dX1_joins_56 rfl (lv_at hl 2 rfl) ?_
              refine lv_iload_n hx hb dX1_joins_57 rfl (lv_at hl 1 rfl) ?_
              obtain ⟨hg11, hf⟩ := ob_guard hf
              refine va_iast hx hb hK hP hD hS 4 0 rfl rfl hg11 dX1_joins_58 (fun H locs hP hD hS => ?_)
              have hP : va_P G.1 vwCl (ce_X1 G.2.1 a0 (S0.1, S0.2.1, S0.2.2.1, (upd (upd S0.2.2.2.1 (p1.toNatClampNeg) p2) (p2.toNatClampNeg) p1), S0.2.2.2.2.1, S0.2.2.2.2.2.1, S0.2.2.2.2.2.2.1, S0.2.2.2.2.2.2.2.1, S0.2.2.2.2.2.2.2.2)) H := hP
              have hD : va_D A (ce_X1 G.2.1 a0 (S0.1, S0.2.1, S0.2.2.1, (upd (upd S0.2.2.2.1 (p1.toNatClampNeg) p2) (p2.toNatClampNeg) p1), S0.2.2.2.2.1, S0.2.2.2.2.2.1, S0.2.2.2.2.2.2.1, S0.2.2.2.2.2.2.2.1, S0.2.2.2.2.2.2.2.2)) := hD
              refine lv_iconst (v := 1) hx hb dX1_joins_59 (by decide) ?_
              exact fin _ _ _ _ _ _ hf rfl hP hD hS dX1_joins_60
            · replace hf := ob_neg c9 hf
              exact blk43 _ hf _ _ hP hD hS _ (lv_sub hl [] rfl)
  exact go _ _ hP hD hS _ hl
abbrev rm_X1_bit : Room := { frames := 2, cells := 0, slots := 0, locals := 45 }
set_option maxHeartbeats 4000000 in
set_option maxRecDepth 100000 in
theorem c_X1_bit (l : Launch) (G : zG) (a0 : AT_X1) (sz : Nat) (S0 : ST_X1) (p1 : Int32) (out : Int32) (hf : f_X1_bit S0 p1 = some out) : Met l yX1_bit wsX1_bit rm_X1_bit (PcM G (ce_X1 G.2.1 a0 S0) [.ref a0.1, .int p1] sz) (QRo G (ce_X1 G.2.1 a0 S0) out (va_A (ce_X1 G.2.1 a0 S0) sz)) 0 0 (va_A (ce_X1 G.2.1 a0 S0) sz) := by
  rw [f_X1_bit] at hf
  refine Met.ofW (cc := cX1_bit) (maxL := 2) (ret := (some .int)) (by decide) rfl ?_
  intro p e s m args below meth c s₁ B hml hv
  obtain ⟨hargs, hsz, hP, hK, hD0, hE⟩ := hv
  have hx := B.exec
  have hb := B.bytes
  have hr := B.returns
  have hts := atoms_spec (ws := wsX1_bit) B.pre
  have hown : s.vm.findClass RX1 = some m.cls := findClass_of_methodNamed B.named
  have hlocks := B.notSynchronized
  subst hsz
  have hD := hD0.self (sz := s.heap.size)
  generalize hAe : va_A (ce_X1 G.2.1 a0 S0) s.heap.size = A at hD hE ⊢
  have hA : ∀ q : Nat, s.heap.size ≤ q → A q := fun q h => by rw [← hAe]; exact Or.inr h
  have hS : va_S A s.heap s.heap [] := va_S.rf
  have hl := lv_entry ([.ref a0.1, .int p1]) (n := 2) (Nat.le_of_ble_eq_true rfl)
  have hent : entryFrame m args 2 = F0 m 0 ((lg_sl ([.ref a0.1, .int p1]) ++ List.replicate (2 - (lg_sl ([.ref a0.1, .int p1])).length) Slot.unset).toArray) [] := by rw [hargs, lg_entry_eq]
  rw [hent]
  clear hent
  generalize (lg_sl ([.ref a0.1, .int p1]) ++ List.replicate (2 - (lg_sl ([.ref a0.1, .int p1])).length) Slot.unset).toArray = ls at hl ⊢
  have hl : lv_has ls 2 [(0, .ref a0.1), (1, .int p1)] := hl
  have fin : ∀ (pc : Nat) (v : Int32) (H : Heap) (locs : List Loc) (ls : Array Slot), some v = some out → va_P G.1 vwCl (ce_X1 G.2.1 a0 S0) H → va_D A (ce_X1 G.2.1 a0 S0) → va_S A s.heap H locs → decode cX1_bit pc = .ok (.ireturn, 1) → W p l e (headSpec wsX1_bit rm_X1_bit).room s m args below meth c H locs 0 0 (MQ below (QRo G (ce_X1 G.2.1 a0 S0) out A) args s 0 0 A) (F0 m pc ls [.int v]) := fun pc v H locs ls ho hP hD hS hd => W.iret (v := v) hx hb hr (fun t ht hW => ⟨⟨v, (), rfl, Option.some.inj ho, by first | (rw [ht]; exact hP) | (dsimp only; rw [ht]; exact hP)⟩, hS.F ht⟩) hS.2.2 hd
  generalize MQ below (QRo G (ce_X1 G.2.1 a0 S0) out A) args s 0 0 A = Q at fin ⊢
  have go : ∀ (H : Heap) (locs : List Loc), va_P G.1 vwCl (ce_X1 G.2.1 a0 S0) H → va_D A (ce_X1 G.2.1 a0 S0) → va_S A s.heap H locs → ∀ (ls : Array Slot), lv_has ls 2 [(0, .ref a0.1), (1, .int p1)] → W p l e (headSpec wsX1_bit rm_X1_bit).room s m args below meth c H locs 0 0 Q (F0 m 0 ls []) := by
    intro H locs hP hD hS ls hl
    refine lv_aload_n hx hb dX1_bit_0 rfl (lv_at hl 0 rfl) ?_
    refine lv_iload_n hx hb dX1_bit_1 rfl (lv_at hl 1 rfl) ?_
    obtain ⟨r1, hr1, hf⟩ := ob_bind hf
    have hFc := va_free (wc := ce_X1 G.2.1 a0 S0) hD hS hA [0, 1, 2, 3, 4, 5] rfl
    refine zc_ro (va_runV (As := [.int p1]) (rest := []) ⟨hx, hb, hml, hown, hts⟩ (c_X1_knows l G a0 H.size S0 p1 _ hr1) (cwV 1 hts gX1_bit_X1_knows rfl rfl rfl (by decide +kernel) ⟨Nat.le_of_ble_eq_true rfl, Nat.le_of_ble_eq_true rfl⟩) ⟨PcM.blind, va_recv hK hP (ci := 1) (q0 := 0) rfl rfl, PcM.ok hP hD hK hE hS hFc⟩ rfl rfl hl.1 rfl (lv_room (Nat.le_of_ble_eq_true rfl)) dX1_bit_2 ⟨Nat.le_refl _, Nat.le_refl _⟩) hP hD hS hA [0, 1, 2, 3, 4, 5] rfl (fun H locs hP hS => ?_)
    refine lv_if_eq (tgt := 14) hx hb dX1_bit_5 (by decide) (fun c2 => ?_) (fun c2 => ?_)
    · replace hf := ob_pos c2 hf
      refine lv_iconst (v := 0) hx hb dX1_bit_14 (by decide) ?_
      exact fin _ _ _ _ _ hf hP hD hS dX1_bit_15
    · replace hf := ob_neg c2 hf
      refine lv_iconst (v := 1) hx hb dX1_bit_8 (by decide) ?_
      refine lv_iload_n hx hb dX1_bit_9 rfl (lv_at hl 1 rfl) ?_
      refine lv_ishl hx hb dX1_bit_10 ?_
      refine lv_goto (tgt := 15) hx hb dX1_bit_11 (by decide) ?_
      exact fin _ _ _ _ _ hf hP hD hS dX1_bit_15
  exact go _ _ hP hD hS _ hl
abbrev rm_X1_takes : Room := { frames := 7, cells := 0, slots := 0, locals := 162 }
set_option maxHeartbeats 4000000 in
set_option maxRecDepth 100000 in
theorem c_X1_takes (l : Launch) (G : zG) (a0 : AT_X1) (a1 : AT_X2) (sz : Nat) (S0 : ST_X1) (S1 : ST_X2) (p2 : Int32) (out : Int32 × ST_X1) (hf : f_X1_takes S0 S1 p2 = some out) : Met l yX1_takes wsX1_takes rm_X1_takes (PcM G (ce_X1 G.2.1 a0 S0 ++ ce_X2 G.2.1 a1 S1) [.ref a0.1, .ref a1.1, .int p2] sz) (QWr G (fun u => ce_X1 G.2.1 a0 u ++ ce_X2 G.2.1 a1 S1) out (va_A (ce_X1 G.2.1 a0 S0 ++ ce_X2 G.2.1 a1 S1) sz)) 0 0 (va_A (ce_X1 G.2.1 a0 S0 ++ ce_X2 G.2.1 a1 S1) sz) := by
  rw [f_X1_takes] at hf
  refine Met.ofW (cc := cX1_takes) (maxL := 4) (ret := (some .boolean)) (by decide) rfl ?_
  intro p e s m args below meth c s₁ B hml hv
  obtain ⟨hargs, hsz, hP, hK, hD0, hE⟩ := hv
  have hx := B.exec
  have hb := B.bytes
  have hr := B.returns
  have hts := atoms_spec (ws := wsX1_takes) B.pre
  have hown : s.vm.findClass RX1 = some m.cls := findClass_of_methodNamed B.named
  have hlocks := B.notSynchronized
  subst hsz
  have hD := hD0.self (sz := s.heap.size)
  generalize hAe : va_A (ce_X1 G.2.1 a0 S0 ++ ce_X2 G.2.1 a1 S1) s.heap.size = A at hD hE ⊢
  have hA : ∀ q : Nat, s.heap.size ≤ q → A q := fun q h => by rw [← hAe]; exact Or.inr h
  have hS : va_S A s.heap s.heap [] := va_S.rf
  have hl := lv_entry ([.ref a0.1, .ref a1.1, .int p2]) (n := 4) (Nat.le_of_ble_eq_true rfl)
  have hent : entryFrame m args 4 = F0 m 0 ((lg_sl ([.ref a0.1, .ref a1.1, .int p2]) ++ List.replicate (4 - (lg_sl ([.ref a0.1, .ref a1.1, .int p2])).length) Slot.unset).toArray) [] := by rw [hargs, lg_entry_eq]
  rw [hent]
  clear hent
  generalize (lg_sl ([.ref a0.1, .ref a1.1, .int p2]) ++ List.replicate (4 - (lg_sl ([.ref a0.1, .ref a1.1, .int p2])).length) Slot.unset).toArray = ls at hl ⊢
  have hl : lv_has ls 4 [(0, .ref a0.1), (1, .ref a1.1), (2, .int p2)] := hl
  have lk0 := hts (Cond.initialized RX2) (List.mem_of_getElem? (i := 4) rfl)
  have lk1 := hts (Cond.instanceMethod yX2_number) (List.mem_of_getElem? (i := 3) rfl)
  have lk2 := hts (Cond.selects RX2 yX2_number yX2_number) (List.mem_of_getElem? (i := 5) rfl)
  have lk3 := hts (Cond.instanceMethod yX2_sign) (List.mem_of_getElem? (i := 12) rfl)
  have lk4 := hts (Cond.selects RX2 yX2_sign yX2_sign) (List.mem_of_getElem? (i := 13) rfl)
  have lk5 := hts (Cond.fieldLink RX1 43 "EnginesOnList$Fleet" "friends" "I") (List.mem_of_getElem? (i := 2) rfl)
  have lk6 := hts (Cond.fieldLink RX1 40 "EnginesOnList$Fleet" "underlined" "I") (List.mem_of_getElem? (i := 1) rfl)
  have hinX1 : ∀ w ∈ wsX10, w ∈ wsX1_takes := by decide +kernel
  have fin : ∀ (pc : Nat) (v : Int32) (u : ST_X1) (H : Heap) (locs : List Loc) (ls : Array Slot), some (v, u) = some out → narrow .boolean (.int v) = .int v → va_P G.1 vwCl (ce_X1 G.2.1 a0 u ++ ce_X2 G.2.1 a1 S1) H → va_D A (ce_X1 G.2.1 a0 u ++ ce_X2 G.2.1 a1 S1) → va_S A s.heap H locs → decode cX1_takes pc = .ok (.ireturn, 1) → W p l e (headSpec wsX1_takes rm_X1_takes).room s m args below meth c H locs 0 0 (MQ below (QWr G (fun u => ce_X1 G.2.1 a0 u ++ ce_X2 G.2.1 a1 S1) out A) args s 0 0 A) (F0 m pc ls [.int v]) := fun pc v u H locs ls ho hn hP hD hS hd => W.zret (v := v) hx hb hr hn (fun t ht hW => ⟨⟨v, u, rfl, ob_pair ho, by first | (rw [ht]; exact hP) | (dsimp only; rw [ht]; exact hP), hD⟩, hS.F ht⟩) hS.2.2 hd
  generalize MQ below (QWr G (fun u => ce_X1 G.2.1 a0 u ++ ce_X2 G.2.1 a1 S1) out A) args s 0 0 A = Q at fin ⊢
  have blk79 : ∀ (S0 : ST_X1), f_X1_takes_b79 S1 S0 = some out → ∀ (H : Heap) (locs : List Loc), va_P G.1 vwCl (ce_X1 G.2.1 a0 S0 ++ ce_X2 G.2.1 a1 S1) H → va_D A (ce_X1 G.2.1 a0 S0 ++ ce_X2 G.2.1 a1 S1) → va_S A s.heap H locs → ∀ (ls : Array Slot), lv_has ls 4 [] → W p l e (headSpec wsX1_takes rm_X1_takes).room s m args below meth c H locs 0 0 Q (F0 m 79 ls []) := by
    intro S0 hf H locs hP hD hS ls hl
    rw [f_X1_takes_b79] at hf
    refine lv_iconst (v := 0) hx hb dX1_takes_79 (by decide) ?_
    exact fin _ _ _ _ _ _ hf rfl hP hD hS dX1_takes_80
  have go : ∀ (H : Heap) (locs : List Loc), va_P G.1 vwCl (ce_X1 G.2.1 a0 S0 ++ ce_X2 G.2.1 a1 S1) H → va_D A (ce_X1 G.2.1 a0 S0 ++ ce_X2 G.2.1 a1 S1) → va_S A s.heap H locs → ∀ (ls : Array Slot), lv_has ls 4 [(0, .ref a0.1), (1, .ref a1.1), (2, .int p2)] → W p l e (headSpec wsX1_takes rm_X1_takes).room s m args below meth c H locs 0 0 Q (F0 m 0 ls []) := by
    intro H locs hP hD hS ls hl
    refine lv_aload_n hx hb dX1_takes_0 rfl (lv_at hl 0 rfl) ?_
    refine lv_aload_n hx hb dX1_takes_1 rfl (lv_at hl 1 rfl) ?_
    refine lv_iload_n hx hb dX1_takes_2 rfl (lv_at hl 2 rfl) ?_
    refine lv_iconst (v := 1) hx hb dX1_takes_3 (by decide) ?_
    refine lv_iadd hx hb dX1_takes_4 ?_
    obtain ⟨r1, hr1, hf⟩ := ob_bind hf
    have hPc : va_P G.1 vwCl (ce_X2 G.2.1 a1 S1) H := hP.sub [6, 7] rfl
    have hDc : va_D A (ce_X2 G.2.1 a1 S1) := hD.sub [6, 7] (by decide) rfl
    have hFc := va_free (wc := ce_X2 G.2.1 a1 S1) hD hS hA [6, 7] rfl
    refine zc_ro (va_runVN (As := [.int (p2 + 1)]) (rest := [.ref a0.1]) ⟨hx, hb, hml, hown, hts⟩ (c_X2_number l G a1 H.size S1 (p2 + 1) _ hr1) (⟨va_cnB 1 hts gX1_takes_X2_number_n54 rfl rfl rfl (hE.1 _ nw_31) lk0 (by decide +kernel) ⟨Nat.le_of_ble_eq_true rfl, Nat.le_of_ble_eq_true rfl⟩, lk1, lk2⟩) ⟨PcM.blind, va_recv hK hPc (ci := 2) (q0 := 0) rfl rfl, PcM.ok hPc hDc hK hE hS hFc⟩ rfl rfl hl.1 rfl (lv_room (Nat.le_of_ble_eq_true rfl)) dX1_takes_5 ⟨Nat.le_refl _, Nat.le_refl _⟩) hP hD hS hA [6, 7] rfl (fun H locs hP hS => ?_)
    obtain ⟨r2, hr2, hf⟩ := ob_bind hf
    have hPc : va_P G.1 vwCl (ce_X1 G.2.1 a0 S0) H := hP.sub [0, 1, 2, 3, 4, 5] rfl
    have hDc : va_D A (ce_X1 G.2.1 a0 S0) := hD.sub [0, 1, 2, 3, 4, 5] (by decide) rfl
    have hFc := va_free (wc := ce_X1 G.2.1 a0 S0) hD hS hA [0, 1, 2, 3, 4, 5] rfl
    refine zc_ro (va_runV (As := [.int r1]) (rest := []) ⟨hx, hb, hml, hown, hts⟩ (c_X1_numbered l G a0 H.size S0 r1 _ hr2) (cwV 1 hts gX1_takes_X1_numbered rfl rfl rfl (by decide +kernel) ⟨Nat.le_of_ble_eq_true rfl, Nat.le_of_ble_eq_true rfl⟩) ⟨PcM.blind, va_recv hK hPc (ci := 1) (q0 := 0) rfl rfl, PcM.ok hPc hDc hK hE hS hFc⟩ rfl rfl hl.1 rfl (lv_room (Nat.le_of_ble_eq_true rfl)) dX1_takes_8 ⟨Nat.le_refl _, Nat.le_refl _⟩) hP hD hS hA [0, 1, 2, 3, 4, 5] rfl (fun H locs hP hS => ?_)
    refine lv_istore_n (lv' := [(3, .int r2), (0, .ref a0.1), (1, .ref a1.1), (2, .int p2)]) hx hb dX1_takes_11 rfl hl (by decide) rfl (fun ls hl => ?_)
    refine lv_aload_n hx hb dX1_takes_12 rfl (lv_at hl 2 rfl) ?_
    refine lv_iload_n hx hb dX1_takes_13 rfl (lv_at hl 3 rfl) ?_
    obtain ⟨r3, hr3, hf⟩ := ob_bind hf
    have hPc : va_P G.1 vwCl (ce_X2 G.2.1 a1 S1) H := hP.sub [6, 7] rfl
    have hDc : va_D A (ce_X2 G.2.1 a1 S1) := hD.sub [6, 7] (by decide) rfl
    have hFc := va_free (wc := ce_X2 G.2.1 a1 S1) hD hS hA [6, 7] rfl
    refine zc_ro (va_runVN (As := [.int p2]) (rest := []) ⟨hx, hb, hml, hown, hts⟩ (c_X2_sign l G a1 H.size S1 p2 _ hr3) (⟨va_cnB 1 hts gX1_takes_X2_sign_n60 rfl rfl rfl (hE.1 _ nw_32) lk0 (by decide +kernel) ⟨Nat.le_of_ble_eq_true rfl, Nat.le_of_ble_eq_true rfl⟩, lk3, lk4⟩) ⟨PcM.blind, va_recv hK hPc (ci := 2) (q0 := 0) rfl rfl, PcM.ok hPc hDc hK hE hS hFc⟩ rfl rfl hl.1 rfl (lv_room (Nat.le_of_ble_eq_true rfl)) dX1_takes_14 ⟨Nat.le_refl _, Nat.le_refl _⟩) hP hD hS hA [6, 7] rfl (fun H locs hP hS => ?_)
    by_cases c4_0 : r3 = 101
    · replace hf := ob_pos c4_0 hf
      refine lv_lookup (x := r3) (off := 43) (tgt := 60) hx hb dX1_takes_17 (by decide) (by rw [c4_0]; decide) (by decide) ?_
      refine lv_iload_n hx hb dX1_takes_60 rfl (lv_at hl 0 rfl) ?_
      refine lv_bipush (v := (-9)) hx hb dX1_takes_61 (by decide) ?_
      refine lv_icmp_ne (tgt := 79) hx hb dX1_takes_63 (by decide) (fun c5 => ?_) (fun c5 => ?_)
      · replace hf := ob_neg c5 hf
        exact blk79 _ hf _ _ hP hD hS _ (lv_sub hl [] rfl)
      · replace hf := ob_pos c5 hf
        refine lv_aload_n hx hb dX1_takes_66 rfl (lv_at hl 1 rfl) ?_
        refine lv_aload_n hx hb dX1_takes_67 rfl (lv_at hl 2 rfl) ?_
        refine lv_iload_n hx hb dX1_takes_68 rfl (lv_at hl 3 rfl) ?_
        obtain ⟨r6, hr6, hf⟩ := ob_bind hf
        have hFc := va_free (wc := ce_X1 G.2.1 a0 S0 ++ ce_X2 G.2.1 a1 S1) hD hS hA [0, 1, 2, 3, 4, 5, 6, 7] rfl
        refine zc_wr (cf := (fun u => ce_X1 G.2.1 a0 u ++ ce_X2 G.2.1 a1 S1)) (ws' := ce_X1 G.2.1 a0 r6.2 ++ ce_X2 G.2.1 a1 S1) (va_runV (As := [.ref a1.1, .int p2]) (rest := []) ⟨hx, hb, hml, hown, hts⟩ (c_X1_takesEngine l G a0 a1 H.size S0 S1 p2 _ hr6) (cwV 2 hts gX1_takes_X1_takesEngine rfl rfl rfl (by decide +kernel) ⟨Nat.le_of_ble_eq_true rfl, Nat.le_of_ble_eq_true rfl⟩) ⟨PcM.blind, va_recv hK hP (ci := 1) (q0 := 0) rfl rfl, PcM.ok hP hD hK hE hS hFc⟩ rfl rfl hl.1 rfl (lv_room (Nat.le_of_ble_eq_true rfl)) dX1_takes_69 ⟨Nat.le_refl _, Nat.le_refl _⟩) hP hD hS hA [0, 1, 2, 3, 4, 5, 6, 7] [] [0, 1, 2, 3, 4, 5, 6, 7] rfl rfl (by decide) (by decide) (by decide) rfl (fun H locs hP hD hS => ?_)
        refine lv_if_eq (tgt := 79) hx hb dX1_takes_72 (by decide) (fun c7 => ?_) (fun c7 => ?_)
        · replace hf := ob_pos c7 hf
          exact blk79 _ hf _ _ hP hD hS _ (lv_sub hl [] rfl)
        · replace hf := ob_neg c7 hf
          refine lv_iconst (v := 1) hx hb dX1_takes_75 (by decide) ?_
          refine lv_goto (tgt := 80) hx hb dX1_takes_76 (by decide) ?_
          exact fin _ _ _ _ _ _ hf rfl hP hD hS dX1_takes_80
    · replace hf := ob_neg c4_0 hf
      by_cases c4_1 : r3 = 102
      · replace hf := ob_pos c4_1 hf
        refine lv_lookup (x := r3) (off := 107) (tgt := 124) hx hb dX1_takes_17 (by decide) (by rw [c4_1]; decide) (by decide) ?_
        refine lv_aload_n hx hb dX1_takes_124 rfl (lv_at hl 1 rfl) ?_
        refine lv_dup hx hb dX1_takes_125 rfl ?_
        refine va_get (D := G.1) (ci := 1) (v := .int S0.2.2.2.2.2.2.2.2) (C := RX1) (T := TX1) (N := 9) hx hb hts hinX1 hown hK hP 0 rfl rfl 8 (by decide) lk5 (fun _ h9 => h9) rfl dX1_takes_126 ?_
        refine lv_aload_n hx hb dX1_takes_129 rfl (lv_at hl 1 rfl) ?_
        refine lv_iload_n hx hb dX1_takes_130 rfl (lv_at hl 0 rfl) ?_
        obtain ⟨r8, hr8, hf⟩ := ob_bind hf
        have hPc : va_P G.1 vwCl (ce_X1 G.2.1 a0 S0) H := hP.sub [0, 1, 2, 3, 4, 5] rfl
        have hDc : va_D A (ce_X1 G.2.1 a0 S0) := hD.sub [0, 1, 2, 3, 4, 5] (by decide) rfl
        have hFc := va_free (wc := ce_X1 G.2.1 a0 S0) hD hS hA [0, 1, 2, 3, 4, 5] rfl
        refine zc_ro (va_runV (As := [.int r2]) (rest := [.int S0.2.2.2.2.2.2.2.2, .ref a0.1]) ⟨hx, hb, hml, hown, hts⟩ (c_X1_bit l G a0 H.size S0 r2 _ hr8) (cwV 1 hts gX1_takes_X1_bit rfl rfl rfl (by decide +kernel) ⟨Nat.le_of_ble_eq_true rfl, Nat.le_of_ble_eq_true rfl⟩) ⟨PcM.blind, va_recv hK hPc (ci := 1) (q0 := 0) rfl rfl, PcM.ok hPc hDc hK hE hS hFc⟩ rfl rfl hl.1 rfl (lv_room (Nat.le_of_ble_eq_true rfl)) dX1_takes_131 ⟨Nat.le_refl _, Nat.le_refl _⟩) hP hD hS hA [0, 1, 2, 3, 4, 5] rfl (fun H locs hP hS => ?_)
        refine lv_ior hx hb dX1_takes_134 ?_
        refine va_put (D := G.1) (ci := 1) (v := .int (S0.2.2.2.2.2.2.2.2 ||| r8)) (ty := .int) (C := RX1) (T := TX1) (N := 9) hx hb hts hinX1 tyX1 tyX1_ok nmX1 hown hK hP hD hS 0 rfl rfl 8 (by decide) lk5 (fun _ h9 => h9) rfl (by decide +kernel) rfl rfl (Nat.le_of_ble_eq_true rfl) dX1_takes_135 (fun H locs hP hD hS => ?_)
        have hP : va_P G.1 vwCl (ce_X1 G.2.1 a0 (S0.1, S0.2.1, S0.2.2.1, S0.2.2.2.1, S0.2.2.2.2.1, S0.2.2.2.2.2.1, S0.2.2.2.2.2.2.1, S0.2.2.2.2.2.2.2.1, S0.2.2.2.2.2.2.2.2 ||| r8) ++ ce_X2 G.2.1 a1 S1) H := hP
        have hD : va_D A (ce_X1 G.2.1 a0 (S0.1, S0.2.1, S0.2.2.1, S0.2.2.2.1, S0.2.2.2.2.1, S0.2.2.2.2.2.1, S0.2.2.2.2.2.2.1, S0.2.2.2.2.2.2.2.1, S0.2.2.2.2.2.2.2.2 ||| r8) ++ ce_X2 G.2.1 a1 S1) := hD
        refine lv_iload_n hx hb dX1_takes_138 rfl (lv_at hl 0 rfl) ?_
        refine lv_bipush (v := (-9)) hx hb dX1_takes_139 (by decide) ?_
        refine lv_icmp_eq (tgt := 148) hx hb dX1_takes_141 (by decide) (fun c9 => ?_) (fun c9 => ?_)
        · replace hf := ob_pos c9 hf
          refine lv_iconst (v := 0) hx hb dX1_takes_148 (by decide) ?_
          exact fin _ _ _ _ _ _ hf rfl hP hD hS dX1_takes_149
        · replace hf := ob_neg c9 hf
          refine lv_iconst (v := 1) hx hb dX1_takes_144 (by decide) ?_
          refine lv_goto (tgt := 149) hx hb dX1_takes_145 (by decide) ?_
          exact fin _ _ _ _ _ _ hf rfl hP hD hS dX1_takes_149
      · replace hf := ob_neg c4_1 hf
        by_cases c4_2 : r3 = 106
        · replace hf := ob_pos c4_2 hf
          refine lv_lookup (x := r3) (off := 64) (tgt := 81) hx hb dX1_takes_17 (by decide) (by rw [c4_2]; decide) (by decide) ?_
          refine lv_aload_n hx hb dX1_takes_81 rfl (lv_at hl 1 rfl) ?_
          refine lv_iload_n hx hb dX1_takes_82 rfl (lv_at hl 0 rfl) ?_
          refine lv_aload_n hx hb dX1_takes_83 rfl (lv_at hl 1 rfl) ?_
          refine lv_aload_n hx hb dX1_takes_84 rfl (lv_at hl 2 rfl) ?_
          refine lv_iload_n hx hb dX1_takes_85 rfl (lv_at hl 3 rfl) ?_
          refine lv_iconst (v := 3) hx hb dX1_takes_86 (by decide) ?_
          refine lv_iadd hx hb dX1_takes_87 ?_
          obtain ⟨r10, hr10, hf⟩ := ob_bind hf
          have hPc : va_P G.1 vwCl (ce_X2 G.2.1 a1 S1) H := hP.sub [6, 7] rfl
          have hDc : va_D A (ce_X2 G.2.1 a1 S1) := hD.sub [6, 7] (by decide) rfl
          have hFc := va_free (wc := ce_X2 G.2.1 a1 S1) hD hS hA [6, 7] rfl
          refine zc_ro (va_runVN (As := [.int (p2 + 3)]) (rest := [.ref a0.1, .int r2, .ref a0.1]) ⟨hx, hb, hml, hown, hts⟩ (c_X2_number l G a1 H.size S1 (p2 + 3) _ hr10) (⟨va_cnB 1 hts gX1_takes_X2_number_n54 rfl rfl rfl (hE.1 _ nw_31) lk0 (by decide +kernel) ⟨Nat.le_of_ble_eq_true rfl, Nat.le_of_ble_eq_true rfl⟩, lk1, lk2⟩) ⟨PcM.blind, va_recv hK hPc (ci := 2) (q0 := 0) rfl rfl, PcM.ok hPc hDc hK hE hS hFc⟩ rfl rfl hl.1 rfl (lv_room (Nat.le_of_ble_eq_true rfl)) dX1_takes_88 ⟨Nat.le_refl _, Nat.le_refl _⟩) hP hD hS hA [6, 7] rfl (fun H locs hP hS => ?_)
          obtain ⟨r11, hr11, hf⟩ := ob_bind hf
          have hPc : va_P G.1 vwCl (ce_X1 G.2.1 a0 S0) H := hP.sub [0, 1, 2, 3, 4, 5] rfl
          have hDc : va_D A (ce_X1 G.2.1 a0 S0) := hD.sub [0, 1, 2, 3, 4, 5] (by decide) rfl
          have hFc := va_free (wc := ce_X1 G.2.1 a0 S0) hD hS hA [0, 1, 2, 3, 4, 5] rfl
          refine zc_ro (va_runV (As := [.int r10]) (rest := [.int r2, .ref a0.1]) ⟨hx, hb, hml, hown, hts⟩ (c_X1_numbered l G a0 H.size S0 r10 _ hr11) (cwV 1 hts gX1_takes_X1_numbered rfl rfl rfl (by decide +kernel) ⟨Nat.le_of_ble_eq_true rfl, Nat.le_of_ble_eq_true rfl⟩) ⟨PcM.blind, va_recv hK hPc (ci := 1) (q0 := 0) rfl rfl, PcM.ok hPc hDc hK hE hS hFc⟩ rfl rfl hl.1 rfl (lv_room (Nat.le_of_ble_eq_true rfl)) dX1_takes_91 ⟨Nat.le_refl _, Nat.le_refl _⟩) hP hD hS hA [0, 1, 2, 3, 4, 5] rfl (fun H locs hP hS => ?_)
          obtain ⟨r12, hr12, hf⟩ := ob_bind hf
          have hPc : va_P G.1 vwCl (ce_X1 G.2.1 a0 S0) H := hP.sub [0, 1, 2, 3, 4, 5] rfl
          have hDc : va_D A (ce_X1 G.2.1 a0 S0) := hD.sub [0, 1, 2, 3, 4, 5] (by decide) rfl
          have hFc := va_free (wc := ce_X1 G.2.1 a0 S0) hD hS hA [0, 1, 2, 3, 4, 5] rfl
          refine zc_wr (cf := (fun u => ce_X1 G.2.1 a0 u)) (ws' := ce_X1 G.2.1 a0 r12.2 ++ ce_X2 G.2.1 a1 S1) (va_runV (As := [.int r2, .int r11]) (rest := []) ⟨hx, hb, hml, hown, hts⟩ (c_X1_joins l G a0 H.size S0 r2 r11 _ hr12) (cwV 2 hts gX1_takes_X1_joins rfl rfl rfl (by decide +kernel) ⟨Nat.le_of_ble_eq_true rfl, Nat.le_of_ble_eq_true rfl⟩) ⟨PcM.blind, va_recv hK hPc (ci := 1) (q0 := 0) rfl rfl, PcM.ok hPc hDc hK hE hS hFc⟩ rfl rfl hl.1 rfl (lv_room (Nat.le_of_ble_eq_true rfl)) dX1_takes_94 ⟨Nat.le_refl _, Nat.le_refl _⟩) hP hD hS hA [0, 1, 2, 3, 4, 5] [6, 7] [2, 3, 4, 5, 6, 7, 0, 1] rfl rfl (by decide) (by decide) (by decide) rfl (fun H locs hP hD hS => ?_)
          obtain ⟨hg13, hf⟩ := ob_guard hf
          exact fin _ _ _ _ _ _ hf (congrArg Value.int hg13) hP hD hS dX1_takes_97
        · replace hf := ob_neg c4_2 hf
          by_cases c4_3 : r3 = 117
          · replace hf := ob_pos c4_3 hf
            refine lv_lookup (x := r3) (off := 81) (tgt := 98) hx hb dX1_takes_17 (by decide) (by rw [c4_3]; decide) (by decide) ?_
            refine lv_aload_n hx hb dX1_takes_98 rfl (lv_at hl 1 rfl) ?_
            refine lv_dup hx hb dX1_takes_99 rfl ?_
            refine va_get (D := G.1) (ci := 1) (v := .int S0.2.2.2.2.2.2.2.1) (C := RX1) (T := TX1) (N := 9) hx hb hts hinX1 hown hK hP 0 rfl rfl 7 (by decide) lk6 (fun _ h9 => h9) rfl dX1_takes_100 ?_
            refine lv_aload_n hx hb dX1_takes_103 rfl (lv_at hl 1 rfl) ?_
            refine lv_iload_n hx hb dX1_takes_104 rfl (lv_at hl 0 rfl) ?_
            obtain ⟨r14, hr14, hf⟩ := ob_bind hf
            have hPc : va_P G.1 vwCl (ce_X1 G.2.1 a0 S0) H := hP.sub [0, 1, 2, 3, 4, 5] rfl
            have hDc : va_D A (ce_X1 G.2.1 a0 S0) := hD.sub [0, 1, 2, 3, 4, 5] (by decide) rfl
            have hFc := va_free (wc := ce_X1 G.2.1 a0 S0) hD hS hA [0, 1, 2, 3, 4, 5] rfl
            refine zc_ro (va_runV (As := [.int r2]) (rest := [.int S0.2.2.2.2.2.2.2.1, .ref a0.1]) ⟨hx, hb, hml, hown, hts⟩ (c_X1_bit l G a0 H.size S0 r2 _ hr14) (cwV 1 hts gX1_takes_X1_bit rfl rfl rfl (by decide +kernel) ⟨Nat.le_of_ble_eq_true rfl, Nat.le_of_ble_eq_true rfl⟩) ⟨PcM.blind, va_recv hK hPc (ci := 1) (q0 := 0) rfl rfl, PcM.ok hPc hDc hK hE hS hFc⟩ rfl rfl hl.1 rfl (lv_room (Nat.le_of_ble_eq_true rfl)) dX1_takes_105 ⟨Nat.le_refl _, Nat.le_refl _⟩) hP hD hS hA [0, 1, 2, 3, 4, 5] rfl (fun H locs hP hS => ?_)
            refine lv_ior hx hb dX1_takes_108 ?_
            refine va_put (D := G.1) (ci := 1) (v := .int (S0.2.2.2.2.2.2.2.1 ||| r14)) (ty := .int) (C := RX1) (T := TX1) (N := 9) hx hb hts hinX1 tyX1 tyX1_ok nmX1 hown hK hP hD hS 0 rfl rfl 7 (by decide) lk6 (fun _ h9 => h9) rfl (by decide +kernel) rfl rfl (Nat.le_of_ble_eq_true rfl) dX1_takes_109 (fun H locs hP hD hS => ?_)
            have hP : va_P G.1 vwCl (ce_X1 G.2.1 a0 (S0.1, S0.2.1, S0.2.2.1, S0.2.2.2.1, S0.2.2.2.2.1, S0.2.2.2.2.2.1, S0.2.2.2.2.2.2.1, S0.2.2.2.2.2.2.2.1 ||| r14, S0.2.2.2.2.2.2.2.2) ++ ce_X2 G.2.1 a1 S1) H := hP
            have hD : va_D A (ce_X1 G.2.1 a0 (S0.1, S0.2.1, S0.2.2.1, S0.2.2.2.1, S0.2.2.2.2.1, S0.2.2.2.2.2.1, S0.2.2.2.2.2.2.1, S0.2.2.2.2.2.2.2.1 ||| r14, S0.2.2.2.2.2.2.2.2) ++ ce_X2 G.2.1 a1 S1) := hD
            refine lv_iload_n hx hb dX1_takes_112 rfl (lv_at hl 0 rfl) ?_
            refine lv_bipush (v := (-9)) hx hb dX1_takes_113 (by decide) ?_
            refine lv_icmp_eq (tgt := 122) hx hb dX1_takes_115 (by decide) (fun c15 => ?_) (fun c15 => ?_)
            · replace hf := ob_pos c15 hf
              refine lv_iconst (v := 0) hx hb dX1_takes_122 (by decide) ?_
              exact fin _ _ _ _ _ _ hf rfl hP hD hS dX1_takes_123
            · replace hf := ob_neg c15 hf
              refine lv_iconst (v := 1) hx hb dX1_takes_118 (by decide) ?_
              refine lv_goto (tgt := 123) hx hb dX1_takes_119 (by decide) ?_
              exact fin _ _ _ _ _ _ hf rfl hP hD hS dX1_takes_123
          · replace hf := ob_neg c4_3 hf
            refine lv_lookup (x := r3) (off := 133) (tgt := 150) hx hb dX1_takes_17 (by decide) (by show Op.lookupswitch.offset [(101, 43), (102, 107), (106, 64), (117, 81)] _ _ = _; rw [lv_osw (a := 101) c4_0 rfl, lv_osw (a := 102) c4_1 rfl, lv_osw (a := 106) c4_2 rfl, lv_osw (a := 117) c4_3 rfl]; rfl) (by decide) ?_
            refine lv_iconst (v := 0) hx hb dX1_takes_150 (by decide) ?_
            exact fin _ _ _ _ _ _ hf rfl hP hD hS dX1_takes_151
  exact go _ _ hP hD hS _ hl
abbrev rm_X1_turnOf : Room := { frames := 2, cells := 0, slots := 0, locals := 45 }
set_option maxHeartbeats 4000000 in
set_option maxRecDepth 100000 in
theorem c_X1_turnOf (l : Launch) (G : zG) (a0 : AT_X1) (sz : Nat) (S0 : ST_X1) (p1 : Int32) (p2 : Int32) (out : Int32) (hf : f_X1_turnOf S0 p1 p2 = some out) : Met l yX1_turnOf wsX1_turnOf rm_X1_turnOf (PcM G (ce_X1 G.2.1 a0 S0) [.ref a0.1, .int p1, .int p2] sz) (QRo G (ce_X1 G.2.1 a0 S0) out (va_A (ce_X1 G.2.1 a0 S0) sz)) 0 0 (va_A (ce_X1 G.2.1 a0 S0) sz) := by
  rw [f_X1_turnOf] at hf
  refine Met.ofW (cc := cX1_turnOf) (maxL := 3) (ret := (some .int)) (by decide) rfl ?_
  intro p e s m args below meth c s₁ B hml hv
  obtain ⟨hargs, hsz, hP, hK, hD0, hE⟩ := hv
  have hx := B.exec
  have hb := B.bytes
  have hr := B.returns
  have hts := atoms_spec (ws := wsX1_turnOf) B.pre
  have hown : s.vm.findClass RX1 = some m.cls := findClass_of_methodNamed B.named
  have hlocks := B.notSynchronized
  subst hsz
  have hD := hD0.self (sz := s.heap.size)
  generalize hAe : va_A (ce_X1 G.2.1 a0 S0) s.heap.size = A at hD hE ⊢
  have hA : ∀ q : Nat, s.heap.size ≤ q → A q := fun q h => by rw [← hAe]; exact Or.inr h
  have hS : va_S A s.heap s.heap [] := va_S.rf
  have hl := lv_entry ([.ref a0.1, .int p1, .int p2]) (n := 3) (Nat.le_of_ble_eq_true rfl)
  have hent : entryFrame m args 3 = F0 m 0 ((lg_sl ([.ref a0.1, .int p1, .int p2]) ++ List.replicate (3 - (lg_sl ([.ref a0.1, .int p1, .int p2])).length) Slot.unset).toArray) [] := by rw [hargs, lg_entry_eq]
  rw [hent]
  clear hent
  generalize (lg_sl ([.ref a0.1, .int p1, .int p2]) ++ List.replicate (3 - (lg_sl ([.ref a0.1, .int p1, .int p2])).length) Slot.unset).toArray = ls at hl ⊢
  have hl : lv_has ls 3 [(0, .ref a0.1), (1, .int p1), (2, .int p2)] := hl
  have lk0 := hts (Cond.fieldLink RX1 24 "EnginesOnList$Fleet" "turns" "[I") (List.mem_of_getElem? (i := 1) rfl)
  have hinX1 : ∀ w ∈ wsX10, w ∈ wsX1_turnOf := by decide +kernel
  have fin : ∀ (pc : Nat) (v : Int32) (H : Heap) (locs : List Loc) (ls : Array Slot), some v = some out → va_P G.1 vwCl (ce_X1 G.2.1 a0 S0) H → va_D A (ce_X1 G.2.1 a0 S0) → va_S A s.heap H locs → decode cX1_turnOf pc = .ok (.ireturn, 1) → W p l e (headSpec wsX1_turnOf rm_X1_turnOf).room s m args below meth c H locs 0 0 (MQ below (QRo G (ce_X1 G.2.1 a0 S0) out A) args s 0 0 A) (F0 m pc ls [.int v]) := fun pc v H locs ls ho hP hD hS hd => W.iret (v := v) hx hb hr (fun t ht hW => ⟨⟨v, (), rfl, Option.some.inj ho, by first | (rw [ht]; exact hP) | (dsimp only; rw [ht]; exact hP)⟩, hS.F ht⟩) hS.2.2 hd
  generalize MQ below (QRo G (ce_X1 G.2.1 a0 S0) out A) args s 0 0 A = Q at fin ⊢
  have blk32 : f_X1_turnOf_b32 S0 = some out → ∀ (H : Heap) (locs : List Loc), va_P G.1 vwCl (ce_X1 G.2.1 a0 S0) H → va_D A (ce_X1 G.2.1 a0 S0) → va_S A s.heap H locs → ∀ (ls : Array Slot), lv_has ls 3 [] → W p l e (headSpec wsX1_turnOf rm_X1_turnOf).room s m args below meth c H locs 0 0 Q (F0 m 32 ls []) := by
    intro hf H locs hP hD hS ls hl
    rw [f_X1_turnOf_b32] at hf
    refine lv_bipush (v := 9) hx hb dX1_turnOf_32 (by decide) ?_
    exact fin _ _ _ _ _ hf hP hD hS dX1_turnOf_34
  have go : ∀ (H : Heap) (locs : List Loc), va_P G.1 vwCl (ce_X1 G.2.1 a0 S0) H → va_D A (ce_X1 G.2.1 a0 S0) → va_S A s.heap H locs → ∀ (ls : Array Slot), lv_has ls 3 [(0, .ref a0.1), (1, .int p1), (2, .int p2)] → W p l e (headSpec wsX1_turnOf rm_X1_turnOf).room s m args below meth c H locs 0 0 Q (F0 m 0 ls []) := by
    intro H locs hP hD hS ls hl
    refine lv_aload_n hx hb dX1_turnOf_0 rfl (lv_at hl 0 rfl) ?_
    refine lv_iload_n hx hb dX1_turnOf_1 rfl (lv_at hl 1 rfl) ?_
    obtain ⟨r1, hr1, hf⟩ := ob_bind hf
    have hFc := va_free (wc := ce_X1 G.2.1 a0 S0) hD hS hA [0, 1, 2, 3, 4, 5] rfl
    refine zc_ro (va_runV (As := [.int p1]) (rest := []) ⟨hx, hb, hml, hown, hts⟩ (c_X1_knows l G a0 H.size S0 p1 _ hr1) (cwV 1 hts gX1_turnOf_X1_knows rfl rfl rfl (by decide +kernel) ⟨Nat.le_of_ble_eq_true rfl, Nat.le_of_ble_eq_true rfl⟩) ⟨PcM.blind, va_recv hK hP (ci := 1) (q0 := 0) rfl rfl, PcM.ok hP hD hK hE hS hFc⟩ rfl rfl hl.1 rfl (lv_room (Nat.le_of_ble_eq_true rfl)) dX1_turnOf_2 ⟨Nat.le_refl _, Nat.le_refl _⟩) hP hD hS hA [0, 1, 2, 3, 4, 5] rfl (fun H locs hP hS => ?_)
    refine lv_if_eq (tgt := 32) hx hb dX1_turnOf_5 (by decide) (fun c2 => ?_) (fun c2 => ?_)
    · replace hf := ob_pos c2 hf
      exact blk32  hf _ _ hP hD hS _ (lv_sub hl [] rfl)
    · replace hf := ob_neg c2 hf
      refine lv_iload_n hx hb dX1_turnOf_8 rfl (lv_at hl 2 rfl) ?_
      refine lv_if_lt (tgt := 32) hx hb dX1_turnOf_9 (by decide) (fun c3 => ?_) (fun c3 => ?_)
      · replace hf := ob_pos c3 hf
        exact blk32  hf _ _ hP hD hS _ (lv_sub hl [] rfl)
      · replace hf := ob_neg c3 hf
        refine lv_iload_n hx hb dX1_turnOf_12 rfl (lv_at hl 2 rfl) ?_
        refine lv_bipush (v := 7) hx hb dX1_turnOf_13 (by decide) ?_
        refine lv_icmp_ge (tgt := 32) hx hb dX1_turnOf_15 (by decide) (fun c4 => ?_) (fun c4 => ?_)
        · replace hf := ob_pos c4 hf
          exact blk32  hf _ _ hP hD hS _ (lv_sub hl [] rfl)
        · replace hf := ob_neg c4 hf
          refine lv_aload_n hx hb dX1_turnOf_18 rfl (lv_at hl 0 rfl) ?_
          refine va_get (D := G.1) (ci := 1) (v := .ref a0.2.2.2.2.2) (C := RX1) (T := TX1) (N := 9) hx hb hts hinX1 hown hK hP 0 rfl rfl 4 (by decide) lk0 (fun _ h9 => h9) rfl dX1_turnOf_19 ?_
          refine lv_iload_n hx hb dX1_turnOf_22 rfl (lv_at hl 1 rfl) ?_
          refine lv_bipush (v := 7) hx hb dX1_turnOf_23 (by decide) ?_
          refine lv_imul hx hb dX1_turnOf_25 ?_
          refine lv_iload_n hx hb dX1_turnOf_26 rfl (lv_at hl 2 rfl) ?_
          refine lv_iadd hx hb dX1_turnOf_27 ?_
          obtain ⟨hg5, hf⟩ := ob_guard hf
          refine va_iald hx hb hK hP 5 0 rfl rfl hg5 dX1_turnOf_28 ?_
          refine lv_goto (tgt := 34) hx hb dX1_turnOf_29 (by decide) ?_
          exact fin _ _ _ _ _ hf hP hD hS dX1_turnOf_34
  exact go _ _ hP hD hS _ hl
abbrev rm_X1_placeOn : Room := { frames := 3, cells := 0, slots := 0, locals := 67 }
set_option maxHeartbeats 4000000 in
set_option maxRecDepth 100000 in
theorem c_X1_placeOn (l : Launch) (G : zG) (a0 : AT_X1) (sz : Nat) (S0 : ST_X1) (p1 : Int32) (p2 : Int32) (out : Int32) (hf : f_X1_placeOn S0 p1 p2 = some out) : Met l yX1_placeOn wsX1_placeOn rm_X1_placeOn (PcM G (ce_X1 G.2.1 a0 S0) [.ref a0.1, .int p1, .int p2] sz) (QRo G (ce_X1 G.2.1 a0 S0) out (va_A (ce_X1 G.2.1 a0 S0) sz)) 0 0 (va_A (ce_X1 G.2.1 a0 S0) sz) := by
  rw [f_X1_placeOn] at hf
  refine Met.ofW (cc := cX1_placeOn) (maxL := 7) (ret := (some .int)) (by decide) rfl ?_
  intro p e s m args below meth c s₁ B hml hv
  obtain ⟨hargs, hsz, hP, hK, hD0, hE⟩ := hv
  have hx := B.exec
  have hb := B.bytes
  have hr := B.returns
  have hts := atoms_spec (ws := wsX1_placeOn) B.pre
  have hown : s.vm.findClass RX1 = some m.cls := findClass_of_methodNamed B.named
  have hlocks := B.notSynchronized
  subst hsz
  have hD := hD0.self (sz := s.heap.size)
  generalize hAe : va_A (ce_X1 G.2.1 a0 S0) s.heap.size = A at hD hE ⊢
  have hA : ∀ q : Nat, s.heap.size ≤ q → A q := fun q h => by rw [← hAe]; exact Or.inr h
  have hS : va_S A s.heap s.heap [] := va_S.rf
  have hl := lv_entry ([.ref a0.1, .int p1, .int p2]) (n := 7) (Nat.le_of_ble_eq_true rfl)
  have hent : entryFrame m args 7 = F0 m 0 ((lg_sl ([.ref a0.1, .int p1, .int p2]) ++ List.replicate (7 - (lg_sl ([.ref a0.1, .int p1, .int p2])).length) Slot.unset).toArray) [] := by rw [hargs, lg_entry_eq]
  rw [hent]
  clear hent
  generalize (lg_sl ([.ref a0.1, .int p1, .int p2]) ++ List.replicate (7 - (lg_sl ([.ref a0.1, .int p1, .int p2])).length) Slot.unset).toArray = ls at hl ⊢
  have hl : lv_has ls 7 [(0, .ref a0.1), (1, .int p1), (2, .int p2)] := hl
  have lk0 := hts (Cond.fieldLink RX1 18 "EnginesOnList$Fleet" "figures" "[I") (List.mem_of_getElem? (i := 1) rfl)
  have lk1 := hts (Cond.fieldLink RX1 15 "EnginesOnList$Fleet" "kinds" "[I") (List.mem_of_getElem? (i := 2) rfl)
  have hinX1 : ∀ w ∈ wsX10, w ∈ wsX1_placeOn := by decide +kernel
  have fin : ∀ (pc : Nat) (v : Int32) (H : Heap) (locs : List Loc) (ls : Array Slot), some v = some out → va_P G.1 vwCl (ce_X1 G.2.1 a0 S0) H → va_D A (ce_X1 G.2.1 a0 S0) → va_S A s.heap H locs → decode cX1_placeOn pc = .ok (.ireturn, 1) → W p l e (headSpec wsX1_placeOn rm_X1_placeOn).room s m args below meth c H locs 0 0 (MQ below (QRo G (ce_X1 G.2.1 a0 S0) out A) args s 0 0 A) (F0 m pc ls [.int v]) := fun pc v H locs ls ho hP hD hS hd => W.iret (v := v) hx hb hr (fun t ht hW => ⟨⟨v, (), rfl, Option.some.inj ho, by first | (rw [ht]; exact hP) | (dsimp only; rw [ht]; exact hP)⟩, hS.F ht⟩) hS.2.2 hd
  generalize MQ below (QRo G (ce_X1 G.2.1 a0 S0) out A) args s 0 0 A = Q at fin ⊢
  have blk12 : f_X1_placeOn_b12 S0 = some out → ∀ (H : Heap) (locs : List Loc), va_P G.1 vwCl (ce_X1 G.2.1 a0 S0) H → va_D A (ce_X1 G.2.1 a0 S0) → va_S A s.heap H locs → ∀ (ls : Array Slot), lv_has ls 7 [] → W p l e (headSpec wsX1_placeOn rm_X1_placeOn).room s m args below meth c H locs 0 0 Q (F0 m 12 ls []) := by
    intro hf H locs hP hD hS ls hl
    rw [f_X1_placeOn_b12] at hf
    refine lv_bipush (v := 9) hx hb dX1_placeOn_12 (by decide) ?_
    exact fin _ _ _ _ _ hf hP hD hS dX1_placeOn_14
  have blk118 : ∀ (v6 : Int32), f_X1_placeOn_b118 S0 v6 = some out → ∀ (H : Heap) (locs : List Loc), va_P G.1 vwCl (ce_X1 G.2.1 a0 S0) H → va_D A (ce_X1 G.2.1 a0 S0) → va_S A s.heap H locs → ∀ (ls : Array Slot), lv_has ls 7 [(6, .int v6)] → W p l e (headSpec wsX1_placeOn rm_X1_placeOn).room s m args below meth c H locs 0 0 Q (F0 m 118 ls []) := by
    intro v6 hf H locs hP hD hS ls hl
    rw [f_X1_placeOn_b118] at hf
    refine lv_iload hx hb dX1_placeOn_118 (lv_at hl 0 rfl) ?_
    exact fin _ _ _ _ _ hf hP hD hS dX1_placeOn_120
  have blk169 : ∀ (v4 : Int32) (w1 : Int32), f_X1_placeOn_b169 S0 v4 w1 = some out → ∀ (H : Heap) (locs : List Loc), va_P G.1 vwCl (ce_X1 G.2.1 a0 S0) H → va_D A (ce_X1 G.2.1 a0 S0) → va_S A s.heap H locs → ∀ (ls : Array Slot), lv_has ls 7 [(4, .int v4)] → W p l e (headSpec wsX1_placeOn rm_X1_placeOn).room s m args below meth c H locs 0 0 Q (F0 m 169 ls [.int w1, .ref a0.1]) := by
    intro v4 w1 hf H locs hP hD hS ls hl
    rw [f_X1_placeOn_b169] at hf
    refine lv_iload hx hb dX1_placeOn_169 (lv_at hl 0 rfl) ?_
    obtain ⟨r1, hr1, hf⟩ := ob_bind hf
    have hFc := va_free (wc := ce_X1 G.2.1 a0 S0) hD hS hA [0, 1, 2, 3, 4, 5] rfl
    refine zc_ro (va_runV (As := [.int w1, .int v4]) (rest := []) ⟨hx, hb, hml, hown, hts⟩ (c_X1_turnOf l G a0 H.size S0 w1 v4 _ hr1) (cwV 2 hts gX1_placeOn_X1_turnOf rfl rfl rfl (by decide +kernel) ⟨Nat.le_of_ble_eq_true rfl, Nat.le_of_ble_eq_true rfl⟩) ⟨PcM.blind, va_recv hK hP (ci := 1) (q0 := 0) rfl rfl, PcM.ok hP hD hK hE hS hFc⟩ rfl rfl hl.1 rfl (lv_room (Nat.le_of_ble_eq_true rfl)) dX1_placeOn_171 ⟨Nat.le_refl _, Nat.le_refl _⟩) hP hD hS hA [0, 1, 2, 3, 4, 5] rfl (fun H locs hP hS => ?_)
    exact fin _ _ _ _ _ hf hP hD hS dX1_placeOn_174
  have go : ∀ (H : Heap) (locs : List Loc), va_P G.1 vwCl (ce_X1 G.2.1 a0 S0) H → va_D A (ce_X1 G.2.1 a0 S0) → va_S A s.heap H locs → ∀ (ls : Array Slot), lv_has ls 7 [(0, .ref a0.1), (1, .int p1), (2, .int p2)] → W p l e (headSpec wsX1_placeOn rm_X1_placeOn).room s m args below meth c H locs 0 0 Q (F0 m 0 ls []) := by
    intro H locs hP hD hS ls hl
    refine lv_aload_n hx hb dX1_placeOn_0 rfl (lv_at hl 0 rfl) ?_
    refine lv_iload_n hx hb dX1_placeOn_1 rfl (lv_at hl 1 rfl) ?_
    obtain ⟨r2, hr2, hf⟩ := ob_bind hf
    have hFc := va_free (wc := ce_X1 G.2.1 a0 S0) hD hS hA [0, 1, 2, 3, 4, 5] rfl
    refine zc_ro (va_runV (As := [.int p1]) (rest := []) ⟨hx, hb, hml, hown, hts⟩ (c_X1_knows l G a0 H.size S0 p1 _ hr2) (cwV 1 hts gX1_placeOn_X1_knows rfl rfl rfl (by decide +kernel) ⟨Nat.le_of_ble_eq_true rfl, Nat.le_of_ble_eq_true rfl⟩) ⟨PcM.blind, va_recv hK hP (ci := 1) (q0 := 0) rfl rfl, PcM.ok hP hD hK hE hS hFc⟩ rfl rfl hl.1 rfl (lv_room (Nat.le_of_ble_eq_true rfl)) dX1_placeOn_2 ⟨Nat.le_refl _, Nat.le_refl _⟩) hP hD hS hA [0, 1, 2, 3, 4, 5] rfl (fun H locs hP hS => ?_)
    refine lv_if_eq (tgt := 12) hx hb dX1_placeOn_5 (by decide) (fun c3 => ?_) (fun c3 => ?_)
    · replace hf := ob_pos c3 hf
      exact blk12  hf _ _ hP hD hS _ (lv_sub hl [] rfl)
    · replace hf := ob_neg c3 hf
      refine lv_iload_n hx hb dX1_placeOn_8 rfl (lv_at hl 2 rfl) ?_
      refine lv_if_ge (tgt := 15) hx hb dX1_placeOn_9 (by decide) (fun c4 => ?_) (fun c4 => ?_)
      · replace hf := ob_pos c4 hf
        refine lv_iload_n hx hb dX1_placeOn_15 rfl (lv_at hl 2 rfl) ?_
        refine lv_bipush (v := 7) hx hb dX1_placeOn_16 (by decide) ?_
        refine lv_idiv hx hb dX1_placeOn_18 (by decide) ?_
        refine lv_istore_n (lv' := [(3, .int (p2 / 7)), (0, .ref a0.1), (1, .int p1), (2, .int p2)]) hx hb dX1_placeOn_19 rfl hl (by decide) rfl (fun ls hl => ?_)
        refine lv_iload_n hx hb dX1_placeOn_20 rfl (lv_at hl 3 rfl) ?_
        refine lv_bipush (v := 7) hx hb dX1_placeOn_21 (by decide) ?_
        refine lv_irem hx hb dX1_placeOn_23 (by decide) ?_
        refine lv_istore (lv' := [(4, .int (p2 - p2 / 7 * 7)), (3, .int (p2 / 7)), (0, .ref a0.1), (1, .int p1), (2, .int p2)]) hx hb dX1_placeOn_24 hl (by decide) rfl (fun ls hl => ?_)
        refine lv_aload_n hx hb dX1_placeOn_26 rfl (lv_at hl 2 rfl) ?_
        refine va_get (D := G.1) (ci := 1) (v := .ref a0.2.2.2.1) (C := RX1) (T := TX1) (N := 9) hx hb hts hinX1 hown hK hP 0 rfl rfl 2 (by decide) lk0 (fun _ h9 => h9) rfl dX1_placeOn_27 ?_
        refine lv_iload_n hx hb dX1_placeOn_30 rfl (lv_at hl 3 rfl) ?_
        obtain ⟨hg5, hf⟩ := ob_guard hf
        refine va_iald hx hb hK hP 3 0 rfl rfl hg5 dX1_placeOn_31 ?_
        refine lv_istore (lv' := [(5, .int (S0.2.2.1 p1.toNatClampNeg)), (4, .int (p2 - p2 / 7 * 7)), (3, .int (p2 / 7)), (0, .ref a0.1), (1, .int p1), (2, .int p2)]) hx hb dX1_placeOn_32 hl (by decide) rfl (fun ls hl => ?_)
        refine lv_aload_n hx hb dX1_placeOn_34 rfl (lv_at hl 3 rfl) ?_
        refine lv_iload_n hx hb dX1_placeOn_35 rfl (lv_at hl 4 rfl) ?_
        refine lv_iload hx hb dX1_placeOn_36 (lv_at hl 1 rfl) ?_
        obtain ⟨r6, hr6, hf⟩ := ob_bind hf
        have hFc := va_free (wc := ce_X1 G.2.1 a0 S0) hD hS hA [0, 1, 2, 3, 4, 5] rfl
        refine zc_ro (va_runV (As := [.int p1, .int (p2 - p2 / 7 * 7)]) (rest := []) ⟨hx, hb, hml, hown, hts⟩ (c_X1_turnOf l G a0 H.size S0 p1 (p2 - p2 / 7 * 7) _ hr6) (cwV 2 hts gX1_placeOn_X1_turnOf rfl rfl rfl (by decide +kernel) ⟨Nat.le_of_ble_eq_true rfl, Nat.le_of_ble_eq_true rfl⟩) ⟨PcM.blind, va_recv hK hP (ci := 1) (q0 := 0) rfl rfl, PcM.ok hP hD hK hE hS hFc⟩ rfl rfl hl.1 rfl (lv_room (Nat.le_of_ble_eq_true rfl)) dX1_placeOn_38 ⟨Nat.le_refl _, Nat.le_refl _⟩) hP hD hS hA [0, 1, 2, 3, 4, 5] rfl (fun H locs hP hS => ?_)
        refine lv_istore (lv' := [(6, .int r6), (5, .int (S0.2.2.1 p1.toNatClampNeg)), (4, .int (p2 - p2 / 7 * 7)), (3, .int (p2 / 7)), (0, .ref a0.1), (1, .int p1), (2, .int p2)]) hx hb dX1_placeOn_41 hl (by decide) rfl (fun ls hl => ?_)
        refine lv_aload_n hx hb dX1_placeOn_43 rfl (lv_at hl 4 rfl) ?_
        refine va_get (D := G.1) (ci := 1) (v := .ref a0.2.2.1) (C := RX1) (T := TX1) (N := 9) hx hb hts hinX1 hown hK hP 0 rfl rfl 1 (by decide) lk1 (fun _ h9 => h9) rfl dX1_placeOn_44 ?_
        refine lv_iload_n hx hb dX1_placeOn_47 rfl (lv_at hl 5 rfl) ?_
        obtain ⟨hg7, hf⟩ := ob_guard hf
        refine va_iald hx hb hK hP 2 0 rfl rfl hg7 dX1_placeOn_48 ?_
        by_cases c8_0 : S0.2.1 p1.toNatClampNeg = 1
        · replace hf := ob_pos c8_0 hf
          refine lv_tableIn (x := S0.2.1 p1.toNatClampNeg) (off := 35) (tgt := 84) hx hb dX1_placeOn_49 (by rw [c8_0]; decide) (by rw [c8_0]; decide) (by rw [c8_0]; decide) (by decide) ?_
          refine lv_iload hx hb dX1_placeOn_84 (lv_at hl 2 rfl) ?_
          refine lv_iload hx hb dX1_placeOn_86 (lv_at hl 1 rfl) ?_
          refine lv_icmp_lt (tgt := 96) hx hb dX1_placeOn_88 (by decide) (fun c9 => ?_) (fun c9 => ?_)
          · replace hf := ob_pos c9 hf
            refine lv_iload hx hb dX1_placeOn_96 (lv_at hl 0 rfl) ?_
            exact fin _ _ _ _ _ hf hP hD hS dX1_placeOn_98
          · replace hf := ob_neg c9 hf
            refine lv_bipush (v := 9) hx hb dX1_placeOn_91 (by decide) ?_
            refine lv_goto (tgt := 98) hx hb dX1_placeOn_93 (by decide) ?_
            exact fin _ _ _ _ _ hf hP hD hS dX1_placeOn_98
        · replace hf := ob_neg c8_0 hf
          by_cases c8_1 : S0.2.1 p1.toNatClampNeg = 2
          · replace hf := ob_pos c8_1 hf
            refine lv_tableIn (x := S0.2.1 p1.toNatClampNeg) (off := 50) (tgt := 99) hx hb dX1_placeOn_49 (by rw [c8_1]; decide) (by rw [c8_1]; decide) (by rw [c8_1]; decide) (by decide) ?_
            refine lv_iload hx hb dX1_placeOn_99 (lv_at hl 1 rfl) ?_
            refine lv_if_lt (tgt := 118) hx hb dX1_placeOn_101 (by decide) (fun c10 => ?_) (fun c10 => ?_)
            · replace hf := ob_pos c10 hf
              exact blk118 _ hf _ _ hP hD hS _ (lv_sub hl [0] rfl)
            · replace hf := ob_neg c10 hf
              refine lv_iload_n hx hb dX1_placeOn_104 rfl (lv_at hl 3 rfl) ?_
              refine lv_iload hx hb dX1_placeOn_105 (lv_at hl 1 rfl) ?_
              refine lv_iconst (v := 2) hx hb dX1_placeOn_107 (by decide) ?_
              refine lv_iadd hx hb dX1_placeOn_108 ?_
              obtain ⟨hg11, hf⟩ := ob_guard hf
              refine lv_irem hx hb dX1_placeOn_109 hg11 ?_
              refine lv_if_ne (tgt := 118) hx hb dX1_placeOn_110 (by decide) (fun c12 => ?_) (fun c12 => ?_)
              · replace hf := ob_neg c12 hf
                exact blk118 _ hf _ _ hP hD hS _ (lv_sub hl [0] rfl)
              · replace hf := ob_pos c12 hf
                refine lv_bipush (v := 9) hx hb dX1_placeOn_113 (by decide) ?_
                refine lv_goto (tgt := 120) hx hb dX1_placeOn_115 (by decide) ?_
                exact fin _ _ _ _ _ hf hP hD hS dX1_placeOn_120
          · replace hf := ob_neg c8_1 hf
            by_cases c8_2 : S0.2.1 p1.toNatClampNeg = 3
            · replace hf := ob_pos c8_2 hf
              refine lv_tableIn (x := S0.2.1 p1.toNatClampNeg) (off := 72) (tgt := 121) hx hb dX1_placeOn_49 (by rw [c8_2]; decide) (by rw [c8_2]; decide) (by rw [c8_2]; decide) (by decide) ?_
              refine lv_iload hx hb dX1_placeOn_121 (lv_at hl 1 rfl) ?_
              refine lv_iconst (v := 5) hx hb dX1_placeOn_123 (by decide) ?_
              refine lv_irem hx hb dX1_placeOn_124 (by decide) ?_
              exact fin _ _ _ _ _ hf hP hD hS dX1_placeOn_125
            · replace hf := ob_neg c8_2 hf
              by_cases c8_3 : S0.2.1 p1.toNatClampNeg = 4
              · replace hf := ob_pos c8_3 hf
                refine lv_tableIn (x := S0.2.1 p1.toNatClampNeg) (off := 77) (tgt := 126) hx hb dX1_placeOn_49 (by rw [c8_3]; decide) (by rw [c8_3]; decide) (by rw [c8_3]; decide) (by decide) ?_
                refine lv_iload_n hx hb dX1_placeOn_126 rfl (lv_at hl 3 rfl) ?_
                refine lv_iload hx hb dX1_placeOn_127 (lv_at hl 1 rfl) ?_
                refine lv_icmp_ge (tgt := 137) hx hb dX1_placeOn_129 (by decide) (fun c13 => ?_) (fun c13 => ?_)
                · replace hf := ob_pos c13 hf
                  refine lv_bipush (v := 9) hx hb dX1_placeOn_137 (by decide) ?_
                  exact fin _ _ _ _ _ hf hP hD hS dX1_placeOn_139
                · replace hf := ob_neg c13 hf
                  refine lv_iload hx hb dX1_placeOn_132 (lv_at hl 0 rfl) ?_
                  refine lv_goto (tgt := 139) hx hb dX1_placeOn_134 (by decide) ?_
                  exact fin _ _ _ _ _ hf hP hD hS dX1_placeOn_139
              · replace hf := ob_neg c8_3 hf
                by_cases c8_4 : S0.2.1 p1.toNatClampNeg = 5
                · replace hf := ob_pos c8_4 hf
                  refine lv_tableIn (x := S0.2.1 p1.toNatClampNeg) (off := 91) (tgt := 140) hx hb dX1_placeOn_49 (by rw [c8_4]; decide) (by rw [c8_4]; decide) (by rw [c8_4]; decide) (by decide) ?_
                  refine lv_iload_n hx hb dX1_placeOn_140 rfl (lv_at hl 3 rfl) ?_
                  refine lv_iconst (v := 2) hx hb dX1_placeOn_141 (by decide) ?_
                  refine lv_irem hx hb dX1_placeOn_142 (by decide) ?_
                  refine lv_if_ne (tgt := 151) hx hb dX1_placeOn_143 (by decide) (fun c14 => ?_) (fun c14 => ?_)
                  · replace hf := ob_neg c14 hf
                    refine lv_aload_n hx hb dX1_placeOn_151 rfl (lv_at hl 4 rfl) ?_
                    refine lv_aload_n hx hb dX1_placeOn_152 rfl (lv_at hl 4 rfl) ?_
                    refine lv_iload_n hx hb dX1_placeOn_153 rfl (lv_at hl 5 rfl) ?_
                    refine lv_iconst (v := 1) hx hb dX1_placeOn_154 (by decide) ?_
                    refine lv_iadd hx hb dX1_placeOn_155 ?_
                    obtain ⟨r15, hr15, hf⟩ := ob_bind hf
                    have hFc := va_free (wc := ce_X1 G.2.1 a0 S0) hD hS hA [0, 1, 2, 3, 4, 5] rfl
                    refine zc_ro (va_runV (As := [.int (p1 + 1)]) (rest := [.ref a0.1]) ⟨hx, hb, hml, hown, hts⟩ (c_X1_knows l G a0 H.size S0 (p1 + 1) _ hr15) (cwV 1 hts gX1_placeOn_X1_knows rfl rfl rfl (by decide +kernel) ⟨Nat.le_of_ble_eq_true rfl, Nat.le_of_ble_eq_true rfl⟩) ⟨PcM.blind, va_recv hK hP (ci := 1) (q0 := 0) rfl rfl, PcM.ok hP hD hK hE hS hFc⟩ rfl rfl hl.1 rfl (lv_room (Nat.le_of_ble_eq_true rfl)) dX1_placeOn_156 ⟨Nat.le_refl _, Nat.le_refl _⟩) hP hD hS hA [0, 1, 2, 3, 4, 5] rfl (fun H locs hP hS => ?_)
                    refine lv_if_eq (tgt := 168) hx hb dX1_placeOn_159 (by decide) (fun c16 => ?_) (fun c16 => ?_)
                    · replace hf := ob_pos c16 hf
                      refine lv_iconst (v := 0) hx hb dX1_placeOn_168 (by decide) ?_
                      exact blk169 _ _ hf _ _ hP hD hS _ (lv_sub hl [2] rfl)
                    · replace hf := ob_neg c16 hf
                      refine lv_iload_n hx hb dX1_placeOn_162 rfl (lv_at hl 5 rfl) ?_
                      refine lv_iconst (v := 1) hx hb dX1_placeOn_163 (by decide) ?_
                      refine lv_iadd hx hb dX1_placeOn_164 ?_
                      refine lv_goto (tgt := 169) hx hb dX1_placeOn_165 (by decide) ?_
                      exact blk169 _ _ hf _ _ hP hD hS _ (lv_sub hl [2] rfl)
                  · replace hf := ob_pos c14 hf
                    refine lv_iload hx hb dX1_placeOn_146 (lv_at hl 0 rfl) ?_
                    refine lv_goto (tgt := 174) hx hb dX1_placeOn_148 (by decide) ?_
                    exact fin _ _ _ _ _ hf hP hD hS dX1_placeOn_174
                · replace hf := ob_neg c8_4 hf
                  have tc8_0 := lv_neT (a := 1) c8_0 rfl
                  have tc8_1 := lv_neT (a := 2) c8_1 rfl
                  have tc8_2 := lv_neT (a := 3) c8_2 rfl
                  have tc8_3 := lv_neT (a := 4) c8_3 rfl
                  have tc8_4 := lv_neT (a := 5) c8_4 rfl
                  refine lv_tableOut (x := S0.2.1 p1.toNatClampNeg) (tgt := 175) hx hb dX1_placeOn_49 (by omega) (by decide) ?_
                  refine lv_iload hx hb dX1_placeOn_175 (lv_at hl 0 rfl) ?_
                  exact fin _ _ _ _ _ hf hP hD hS dX1_placeOn_177
      · replace hf := ob_neg c4 hf
        exact blk12  hf _ _ hP hD hS _ (lv_sub hl [] rfl)
  exact go _ _ hP hD hS _ hl
abbrev rm_X1_passing : Room := { frames := 4, cells := 0, slots := 0, locals := 93 }
set_option maxHeartbeats 4000000 in
set_option maxRecDepth 100000 in
theorem c_X1_passing (l : Launch) (G : zG) (a0 : AT_X1) (sz : Nat) (S0 : ST_X1) (p1 : Int32) (p2 : Int32) (out : Int32) (hf : f_X1_passing S0 p1 p2 = some out) : Met l yX1_passing wsX1_passing rm_X1_passing (PcM G (ce_X1 G.2.1 a0 S0) [.ref a0.1, .int p1, .int p2] sz) (QRo G (ce_X1 G.2.1 a0 S0) out (va_A (ce_X1 G.2.1 a0 S0) sz)) 0 0 (va_A (ce_X1 G.2.1 a0 S0) sz) := by
  rw [f_X1_passing] at hf
  refine Met.ofW (cc := cX1_passing) (maxL := 5) (ret := (some .int)) (by decide) rfl ?_
  intro p e s m args below meth c s₁ B hml hv
  obtain ⟨hargs, hsz, hP, hK, hD0, hE⟩ := hv
  have hx := B.exec
  have hb := B.bytes
  have hr := B.returns
  have hts := atoms_spec (ws := wsX1_passing) B.pre
  have hown : s.vm.findClass RX1 = some m.cls := findClass_of_methodNamed B.named
  have hlocks := B.notSynchronized
  subst hsz
  have hD := hD0.self (sz := s.heap.size)
  generalize hAe : va_A (ce_X1 G.2.1 a0 S0) s.heap.size = A at hD hE ⊢
  have hA : ∀ q : Nat, s.heap.size ≤ q → A q := fun q h => by rw [← hAe]; exact Or.inr h
  have hS : va_S A s.heap s.heap [] := va_S.rf
  have hl := lv_entry ([.ref a0.1, .int p1, .int p2]) (n := 5) (Nat.le_of_ble_eq_true rfl)
  have hent : entryFrame m args 5 = F0 m 0 ((lg_sl ([.ref a0.1, .int p1, .int p2]) ++ List.replicate (5 - (lg_sl ([.ref a0.1, .int p1, .int p2])).length) Slot.unset).toArray) [] := by rw [hargs, lg_entry_eq]
  rw [hent]
  clear hent
  generalize (lg_sl ([.ref a0.1, .int p1, .int p2]) ++ List.replicate (5 - (lg_sl ([.ref a0.1, .int p1, .int p2])).length) Slot.unset).toArray = ls at hl ⊢
  have hl : lv_has ls 5 [(0, .ref a0.1), (1, .int p1), (2, .int p2)] := hl
  have lk0 := hts (Cond.fieldLink RX1 33 "EnginesOnList$Fleet" "size" "I") (List.mem_of_getElem? (i := 1) rfl)
  have hinX1 : ∀ w ∈ wsX10, w ∈ wsX1_passing := by decide +kernel
  have fin : ∀ (pc : Nat) (v : Int32) (H : Heap) (locs : List Loc) (ls : Array Slot), some v = some out → va_P G.1 vwCl (ce_X1 G.2.1 a0 S0) H → va_D A (ce_X1 G.2.1 a0 S0) → va_S A s.heap H locs → decode cX1_passing pc = .ok (.ireturn, 1) → W p l e (headSpec wsX1_passing rm_X1_passing).room s m args below meth c H locs 0 0 (MQ below (QRo G (ce_X1 G.2.1 a0 S0) out A) args s 0 0 A) (F0 m pc ls [.int v]) := fun pc v H locs ls ho hP hD hS hd => W.iret (v := v) hx hb hr (fun t ht hW => ⟨⟨v, (), rfl, Option.some.inj ho, by first | (rw [ht]; exact hP) | (dsimp only; rw [ht]; exact hP)⟩, hS.F ht⟩) hS.2.2 hd
  generalize MQ below (QRo G (ce_X1 G.2.1 a0 S0) out A) args s 0 0 A = Q at fin ⊢
  have blk5 : ∀ (fu5 : Nat), ∀ (v1 : Int32) (v2 : Int32) (v3 : Int32) (v4 : Int32), f_X1_passing_b5 S0 fu5 v1 v2 v3 v4 = some out → ∀ (H : Heap) (locs : List Loc), va_P G.1 vwCl (ce_X1 G.2.1 a0 S0) H → va_D A (ce_X1 G.2.1 a0 S0) → va_S A s.heap H locs → ∀ (ls : Array Slot), lv_has ls 5 [(0, .ref a0.1), (1, .int v1), (2, .int v2), (3, .int v3), (4, .int v4)] → W p l e (headSpec wsX1_passing rm_X1_passing).room s m args below meth c H locs 0 0 Q (F0 m 5 ls []) := by
    intro fu5
    induction fu5 with
    | zero => intro v1 v2 v3 v4 hf; exact ob_none hf
    | succ fu5 ih5 =>
      intro v1 v2 v3 v4 hf H locs hP hD hS ls hl
      rw [f_X1_passing_b5] at hf
      have blk34 : ∀ (v1 : Int32) (v2 : Int32) (v3 : Int32) (v4 : Int32), f_X1_passing_b34 S0 (f_X1_passing_b5 S0 fu5) v1 v2 v3 v4 = some out → ∀ (H : Heap) (locs : List Loc), va_P G.1 vwCl (ce_X1 G.2.1 a0 S0) H → va_D A (ce_X1 G.2.1 a0 S0) → va_S A s.heap H locs → ∀ (ls : Array Slot), lv_has ls 5 [(0, .ref a0.1), (1, .int v1), (2, .int v2), (3, .int v3), (4, .int v4)] → W p l e (headSpec wsX1_passing rm_X1_passing).room s m args below meth c H locs 0 0 Q (F0 m 34 ls []) := by
        intro v1 v2 v3 v4 hf H locs hP hD hS ls hl
        rw [f_X1_passing_b34] at hf
        refine lv_iinc (v := v4 + 1) (lv' := [(4, .int (v4 + 1)), (0, .ref a0.1), (1, .int v1), (2, .int v2), (3, .int v3)]) hx hb dX1_passing_34 hl (k := 4) rfl rfl (by decide) rfl (fun ls hl => ?_)
        refine lv_goto (tgt := 5) hx hb dX1_passing_37 (by decide) ?_
        exact ih5 _ _ _ _ hf _ _ hP hD hS _ (lv_sub hl [1, 2, 3, 4, 0] rfl)
      refine lv_iload hx hb dX1_passing_5 (lv_at hl 4 rfl) ?_
      refine lv_aload_n hx hb dX1_passing_7 rfl (lv_at hl 0 rfl) ?_
      refine va_get (D := G.1) (ci := 1) (v := .int S0.2.2.2.2.2.1) (C := RX1) (T := TX1) (N := 9) hx hb hts hinX1 hown hK hP 0 rfl rfl 5 (by decide) lk0 (fun _ h9 => h9) rfl dX1_passing_8 ?_
      refine lv_icmp_ge (tgt := 40) hx hb dX1_passing_11 (by decide) (fun c1 => ?_) (fun c1 => ?_)
      · replace hf := ob_pos c1 hf
        refine lv_iload_n hx hb dX1_passing_40 rfl (lv_at hl 3 rfl) ?_
        exact fin _ _ _ _ _ hf hP hD hS dX1_passing_41
      · replace hf := ob_neg c1 hf
        refine lv_aload_n hx hb dX1_passing_14 rfl (lv_at hl 0 rfl) ?_
        refine lv_iload hx hb dX1_passing_15 (lv_at hl 4 rfl) ?_
        refine lv_iload_n hx hb dX1_passing_17 rfl (lv_at hl 2 rfl) ?_
        obtain ⟨r2, hr2, hf⟩ := ob_bind hf
        have hFc := va_free (wc := ce_X1 G.2.1 a0 S0) hD hS hA [0, 1, 2, 3, 4, 5] rfl
        refine zc_ro (va_runV (As := [.int v4, .int v2]) (rest := []) ⟨hx, hb, hml, hown, hts⟩ (c_X1_placeOn l G a0 H.size S0 v4 v2 _ hr2) (cwV 2 hts gX1_passing_X1_placeOn rfl rfl rfl (by decide +kernel) ⟨Nat.le_of_ble_eq_true rfl, Nat.le_of_ble_eq_true rfl⟩) ⟨PcM.blind, va_recv hK hP (ci := 1) (q0 := 0) rfl rfl, PcM.ok hP hD hK hE hS hFc⟩ rfl rfl hl.1 rfl (lv_room (Nat.le_of_ble_eq_true rfl)) dX1_passing_18 ⟨Nat.le_refl _, Nat.le_refl _⟩) hP hD hS hA [0, 1, 2, 3, 4, 5] rfl (fun H locs hP hS => ?_)
        refine lv_iload_n hx hb dX1_passing_21 rfl (lv_at hl 1 rfl) ?_
        refine lv_icmp_ne (tgt := 34) hx hb dX1_passing_22 (by decide) (fun c3 => ?_) (fun c3 => ?_)
        · replace hf := ob_neg c3 hf
          exact blk34 _ _ _ _ hf _ _ hP hD hS _ (lv_sub hl [0, 1, 2, 3, 4] rfl)
        · replace hf := ob_pos c3 hf
          refine lv_iload_n hx hb dX1_passing_25 rfl (lv_at hl 3 rfl) ?_
          refine lv_aload_n hx hb dX1_passing_26 rfl (lv_at hl 0 rfl) ?_
          refine lv_iload hx hb dX1_passing_27 (lv_at hl 4 rfl) ?_
          obtain ⟨r4, hr4, hf⟩ := ob_bind hf
          have hFc := va_free (wc := ce_X1 G.2.1 a0 S0) hD hS hA [0, 1, 2, 3, 4, 5] rfl
          refine zc_ro (va_runV (As := [.int v4]) (rest := [.int v3]) ⟨hx, hb, hml, hown, hts⟩ (c_X1_bit l G a0 H.size S0 v4 _ hr4) (cwV 1 hts gX1_passing_X1_bit rfl rfl rfl (by decide +kernel) ⟨Nat.le_of_ble_eq_true rfl, Nat.le_of_ble_eq_true rfl⟩) ⟨PcM.blind, va_recv hK hP (ci := 1) (q0 := 0) rfl rfl, PcM.ok hP hD hK hE hS hFc⟩ rfl rfl hl.1 rfl (lv_room (Nat.le_of_ble_eq_true rfl)) dX1_passing_29 ⟨Nat.le_refl _, Nat.le_refl _⟩) hP hD hS hA [0, 1, 2, 3, 4, 5] rfl (fun H locs hP hS => ?_)
          refine lv_ior hx hb dX1_passing_32 ?_
          refine lv_istore_n (lv' := [(3, .int (v3 ||| r4)), (0, .ref a0.1), (1, .int v1), (2, .int v2), (4, .int v4)]) hx hb dX1_passing_33 rfl hl (by decide) rfl (fun ls hl => ?_)
          exact blk34 _ _ _ _ hf _ _ hP hD hS _ (lv_sub hl [1, 2, 3, 0, 4] rfl)
  have go : ∀ (H : Heap) (locs : List Loc), va_P G.1 vwCl (ce_X1 G.2.1 a0 S0) H → va_D A (ce_X1 G.2.1 a0 S0) → va_S A s.heap H locs → ∀ (ls : Array Slot), lv_has ls 5 [(0, .ref a0.1), (1, .int p1), (2, .int p2)] → W p l e (headSpec wsX1_passing rm_X1_passing).room s m args below meth c H locs 0 0 Q (F0 m 0 ls []) := by
    intro H locs hP hD hS ls hl
    refine lv_iconst (v := 0) hx hb dX1_passing_0 (by decide) ?_
    refine lv_istore_n (lv' := [(3, .int 0), (0, .ref a0.1), (1, .int p1), (2, .int p2)]) hx hb dX1_passing_1 rfl hl (by decide) rfl (fun ls hl => ?_)
    refine lv_iconst (v := 0) hx hb dX1_passing_2 (by decide) ?_
    refine lv_istore (lv' := [(4, .int 0), (3, .int 0), (0, .ref a0.1), (1, .int p1), (2, .int p2)]) hx hb dX1_passing_3 hl (by decide) rfl (fun ls hl => ?_)
    exact blk5 4096 _ _ _ _ hf _ _ hP hD hS _ (lv_sub hl [2, 3, 4, 1, 0] rfl)
  exact go _ _ hP hD hS _ hl
abbrev rm_X1_isOn : Room := { frames := 3, cells := 0, slots := 0, locals := 66 }
set_option maxHeartbeats 4000000 in
set_option maxRecDepth 100000 in
theorem c_X1_isOn (l : Launch) (G : zG) (a0 : AT_X1) (sz : Nat) (S0 : ST_X1) (p1 : Int32) (p2 : Int32) (out : Int32) (hf : f_X1_isOn S0 p1 p2 = some out) : Met l yX1_isOn wsX1_isOn rm_X1_isOn (PcM G (ce_X1 G.2.1 a0 S0) [.ref a0.1, .int p1, .int p2] sz) (QRo G (ce_X1 G.2.1 a0 S0) out (va_A (ce_X1 G.2.1 a0 S0) sz)) 0 0 (va_A (ce_X1 G.2.1 a0 S0) sz) := by
  rw [f_X1_isOn] at hf
  refine Met.ofW (cc := cX1_isOn) (maxL := 3) (ret := (some .boolean)) (by decide) rfl ?_
  intro p e s m args below meth c s₁ B hml hv
  obtain ⟨hargs, hsz, hP, hK, hD0, hE⟩ := hv
  have hx := B.exec
  have hb := B.bytes
  have hr := B.returns
  have hts := atoms_spec (ws := wsX1_isOn) B.pre
  have hown : s.vm.findClass RX1 = some m.cls := findClass_of_methodNamed B.named
  have hlocks := B.notSynchronized
  subst hsz
  have hD := hD0.self (sz := s.heap.size)
  generalize hAe : va_A (ce_X1 G.2.1 a0 S0) s.heap.size = A at hD hE ⊢
  have hA : ∀ q : Nat, s.heap.size ≤ q → A q := fun q h => by rw [← hAe]; exact Or.inr h
  have hS : va_S A s.heap s.heap [] := va_S.rf
  have hl := lv_entry ([.ref a0.1, .int p1, .int p2]) (n := 3) (Nat.le_of_ble_eq_true rfl)
  have hent : entryFrame m args 3 = F0 m 0 ((lg_sl ([.ref a0.1, .int p1, .int p2]) ++ List.replicate (3 - (lg_sl ([.ref a0.1, .int p1, .int p2])).length) Slot.unset).toArray) [] := by rw [hargs, lg_entry_eq]
  rw [hent]
  clear hent
  generalize (lg_sl ([.ref a0.1, .int p1, .int p2]) ++ List.replicate (3 - (lg_sl ([.ref a0.1, .int p1, .int p2])).length) Slot.unset).toArray = ls at hl ⊢
  have hl : lv_has ls 3 [(0, .ref a0.1), (1, .int p1), (2, .int p2)] := hl
  have lk0 := hts (Cond.fieldLink RX1 21 "EnginesOnList$Fleet" "joined" "[I") (List.mem_of_getElem? (i := 1) rfl)
  have hinX1 : ∀ w ∈ wsX10, w ∈ wsX1_isOn := by decide +kernel
  have fin : ∀ (pc : Nat) (v : Int32) (H : Heap) (locs : List Loc) (ls : Array Slot), some v = some out → narrow .boolean (.int v) = .int v → va_P G.1 vwCl (ce_X1 G.2.1 a0 S0) H → va_D A (ce_X1 G.2.1 a0 S0) → va_S A s.heap H locs → decode cX1_isOn pc = .ok (.ireturn, 1) → W p l e (headSpec wsX1_isOn rm_X1_isOn).room s m args below meth c H locs 0 0 (MQ below (QRo G (ce_X1 G.2.1 a0 S0) out A) args s 0 0 A) (F0 m pc ls [.int v]) := fun pc v H locs ls ho hn hP hD hS hd => W.zret (v := v) hx hb hr hn (fun t ht hW => ⟨⟨v, (), rfl, Option.some.inj ho, by first | (rw [ht]; exact hP) | (dsimp only; rw [ht]; exact hP)⟩, hS.F ht⟩) hS.2.2 hd
  generalize MQ below (QRo G (ce_X1 G.2.1 a0 S0) out A) args s 0 0 A = Q at fin ⊢
  have blk33 : f_X1_isOn_b33 S0 = some out → ∀ (H : Heap) (locs : List Loc), va_P G.1 vwCl (ce_X1 G.2.1 a0 S0) H → va_D A (ce_X1 G.2.1 a0 S0) → va_S A s.heap H locs → ∀ (ls : Array Slot), lv_has ls 3 [] → W p l e (headSpec wsX1_isOn rm_X1_isOn).room s m args below meth c H locs 0 0 Q (F0 m 33 ls []) := by
    intro hf H locs hP hD hS ls hl
    rw [f_X1_isOn_b33] at hf
    refine lv_iconst (v := 0) hx hb dX1_isOn_33 (by decide) ?_
    exact fin _ _ _ _ _ hf rfl hP hD hS dX1_isOn_34
  have go : ∀ (H : Heap) (locs : List Loc), va_P G.1 vwCl (ce_X1 G.2.1 a0 S0) H → va_D A (ce_X1 G.2.1 a0 S0) → va_S A s.heap H locs → ∀ (ls : Array Slot), lv_has ls 3 [(0, .ref a0.1), (1, .int p1), (2, .int p2)] → W p l e (headSpec wsX1_isOn rm_X1_isOn).room s m args below meth c H locs 0 0 Q (F0 m 0 ls []) := by
    intro H locs hP hD hS ls hl
    refine lv_aload_n hx hb dX1_isOn_0 rfl (lv_at hl 0 rfl) ?_
    refine lv_iload_n hx hb dX1_isOn_1 rfl (lv_at hl 2 rfl) ?_
    obtain ⟨r1, hr1, hf⟩ := ob_bind hf
    have hFc := va_free (wc := ce_X1 G.2.1 a0 S0) hD hS hA [0, 1, 2, 3, 4, 5] rfl
    refine zc_ro (va_runV (As := [.int p2]) (rest := []) ⟨hx, hb, hml, hown, hts⟩ (c_X1_knows l G a0 H.size S0 p2 _ hr1) (cwV 1 hts gX1_isOn_X1_knows rfl rfl rfl (by decide +kernel) ⟨Nat.le_of_ble_eq_true rfl, Nat.le_of_ble_eq_true rfl⟩) ⟨PcM.blind, va_recv hK hP (ci := 1) (q0 := 0) rfl rfl, PcM.ok hP hD hK hE hS hFc⟩ rfl rfl hl.1 rfl (lv_room (Nat.le_of_ble_eq_true rfl)) dX1_isOn_2 ⟨Nat.le_refl _, Nat.le_refl _⟩) hP hD hS hA [0, 1, 2, 3, 4, 5] rfl (fun H locs hP hS => ?_)
    refine lv_if_eq (tgt := 33) hx hb dX1_isOn_5 (by decide) (fun c2 => ?_) (fun c2 => ?_)
    · replace hf := ob_pos c2 hf
      exact blk33  hf _ _ hP hD hS _ (lv_sub hl [] rfl)
    · replace hf := ob_neg c2 hf
      refine lv_iload_n hx hb dX1_isOn_8 rfl (lv_at hl 1 rfl) ?_
      refine lv_aload_n hx hb dX1_isOn_9 rfl (lv_at hl 0 rfl) ?_
      refine lv_iload_n hx hb dX1_isOn_10 rfl (lv_at hl 2 rfl) ?_
      obtain ⟨r3, hr3, hf⟩ := ob_bind hf
      have hFc := va_free (wc := ce_X1 G.2.1 a0 S0) hD hS hA [0, 1, 2, 3, 4, 5] rfl
      refine zc_ro (va_runV (As := [.int p2]) (rest := [.int p1]) ⟨hx, hb, hml, hown, hts⟩ (c_X1_bit l G a0 H.size S0 p2 _ hr3) (cwV 1 hts gX1_isOn_X1_bit rfl rfl rfl (by decide +kernel) ⟨Nat.le_of_ble_eq_true rfl, Nat.le_of_ble_eq_true rfl⟩) ⟨PcM.blind, va_recv hK hP (ci := 1) (q0 := 0) rfl rfl, PcM.ok hP hD hK hE hS hFc⟩ rfl rfl hl.1 rfl (lv_room (Nat.le_of_ble_eq_true rfl)) dX1_isOn_11 ⟨Nat.le_refl _, Nat.le_refl _⟩) hP hD hS hA [0, 1, 2, 3, 4, 5] rfl (fun H locs hP hS => ?_)
      refine lv_aload_n hx hb dX1_isOn_14 rfl (lv_at hl 0 rfl) ?_
      refine lv_aload_n hx hb dX1_isOn_15 rfl (lv_at hl 0 rfl) ?_
      refine va_get (D := G.1) (ci := 1) (v := .ref a0.2.2.2.2.1) (C := RX1) (T := TX1) (N := 9) hx hb hts hinX1 hown hK hP 0 rfl rfl 3 (by decide) lk0 (fun _ h9 => h9) rfl dX1_isOn_16 ?_
      refine lv_iload_n hx hb dX1_isOn_19 rfl (lv_at hl 2 rfl) ?_
      obtain ⟨hg4, hf⟩ := ob_guard hf
      refine va_iald hx hb hK hP 4 0 rfl rfl hg4 dX1_isOn_20 ?_
      obtain ⟨r5, hr5, hf⟩ := ob_bind hf
      have hFc := va_free (wc := ce_X1 G.2.1 a0 S0) hD hS hA [0, 1, 2, 3, 4, 5] rfl
      refine zc_ro (va_runV (As := [.int (S0.2.2.2.1 p2.toNatClampNeg)]) (rest := [.int r3, .int p1]) ⟨hx, hb, hml, hown, hts⟩ (c_X1_bit l G a0 H.size S0 (S0.2.2.2.1 p2.toNatClampNeg) _ hr5) (cwV 1 hts gX1_isOn_X1_bit rfl rfl rfl (by decide +kernel) ⟨Nat.le_of_ble_eq_true rfl, Nat.le_of_ble_eq_true rfl⟩) ⟨PcM.blind, va_recv hK hP (ci := 1) (q0 := 0) rfl rfl, PcM.ok hP hD hK hE hS hFc⟩ rfl rfl hl.1 rfl (lv_room (Nat.le_of_ble_eq_true rfl)) dX1_isOn_21 ⟨Nat.le_refl _, Nat.le_refl _⟩) hP hD hS hA [0, 1, 2, 3, 4, 5] rfl (fun H locs hP hS => ?_)
      refine lv_ior hx hb dX1_isOn_24 ?_
      refine lv_iand hx hb dX1_isOn_25 ?_
      refine lv_if_eq (tgt := 33) hx hb dX1_isOn_26 (by decide) (fun c6 => ?_) (fun c6 => ?_)
      · replace hf := ob_pos c6 hf
        exact blk33  hf _ _ hP hD hS _ (lv_sub hl [] rfl)
      · replace hf := ob_neg c6 hf
        refine lv_iconst (v := 1) hx hb dX1_isOn_29 (by decide) ?_
        refine lv_goto (tgt := 34) hx hb dX1_isOn_30 (by decide) ?_
        exact fin _ _ _ _ _ hf rfl hP hD hS dX1_isOn_34
  exact go _ _ hP hD hS _ hl
abbrev rm_X1_standIn : Room := { frames := 2, cells := 0, slots := 0, locals := 45 }
set_option maxHeartbeats 4000000 in
set_option maxRecDepth 100000 in
theorem c_X1_standIn (l : Launch) (G : zG) (a0 : AT_X1) (sz : Nat) (S0 : ST_X1) (p1 : Int32) (out : Int32) (hf : f_X1_standIn S0 p1 = some out) : Met l yX1_standIn wsX1_standIn rm_X1_standIn (PcM G (ce_X1 G.2.1 a0 S0) [.ref a0.1, .int p1] sz) (QRo G (ce_X1 G.2.1 a0 S0) out (va_A (ce_X1 G.2.1 a0 S0) sz)) 0 0 (va_A (ce_X1 G.2.1 a0 S0) sz) := by
  rw [f_X1_standIn] at hf
  refine Met.ofW (cc := cX1_standIn) (maxL := 2) (ret := (some .int)) (by decide) rfl ?_
  intro p e s m args below meth c s₁ B hml hv
  obtain ⟨hargs, hsz, hP, hK, hD0, hE⟩ := hv
  have hx := B.exec
  have hb := B.bytes
  have hr := B.returns
  have hts := atoms_spec (ws := wsX1_standIn) B.pre
  have hown : s.vm.findClass RX1 = some m.cls := findClass_of_methodNamed B.named
  have hlocks := B.notSynchronized
  subst hsz
  have hD := hD0.self (sz := s.heap.size)
  generalize hAe : va_A (ce_X1 G.2.1 a0 S0) s.heap.size = A at hD hE ⊢
  have hA : ∀ q : Nat, s.heap.size ≤ q → A q := fun q h => by rw [← hAe]; exact Or.inr h
  have hS : va_S A s.heap s.heap [] := va_S.rf
  have hl := lv_entry ([.ref a0.1, .int p1]) (n := 2) (Nat.le_of_ble_eq_true rfl)
  have hent : entryFrame m args 2 = F0 m 0 ((lg_sl ([.ref a0.1, .int p1]) ++ List.replicate (2 - (lg_sl ([.ref a0.1, .int p1])).length) Slot.unset).toArray) [] := by rw [hargs, lg_entry_eq]
  rw [hent]
  clear hent
  generalize (lg_sl ([.ref a0.1, .int p1]) ++ List.replicate (2 - (lg_sl ([.ref a0.1, .int p1])).length) Slot.unset).toArray = ls at hl ⊢
  have hl : lv_has ls 2 [(0, .ref a0.1), (1, .int p1)] := hl
  have lk0 := hts (Cond.fieldLink RX1 21 "EnginesOnList$Fleet" "joined" "[I") (List.mem_of_getElem? (i := 1) rfl)
  have lk1 := hts (Cond.methodLink RX1 90 Lib.Math.min.name) (List.mem_of_getElem? (i := 2) rfl)
  have lk2 := hts (Cond.static Lib.Math.min.name) (List.mem_of_getElem? (i := 3) rfl)
  have lk3 := hts (Cond.initialized "java/lang/Math") (List.mem_of_getElem? (i := 4) rfl)
  have lk4 := hts (Cond.code Lib.Math.min.name Lib.Math.min.code 2 (some .int)) (List.mem_of_getElem? (i := 5) rfl)
  have hinX1 : ∀ w ∈ wsX10, w ∈ wsX1_standIn := by decide +kernel
  have fin : ∀ (pc : Nat) (v : Int32) (H : Heap) (locs : List Loc) (ls : Array Slot), some v = some out → va_P G.1 vwCl (ce_X1 G.2.1 a0 S0) H → va_D A (ce_X1 G.2.1 a0 S0) → va_S A s.heap H locs → decode cX1_standIn pc = .ok (.ireturn, 1) → W p l e (headSpec wsX1_standIn rm_X1_standIn).room s m args below meth c H locs 0 0 (MQ below (QRo G (ce_X1 G.2.1 a0 S0) out A) args s 0 0 A) (F0 m pc ls [.int v]) := fun pc v H locs ls ho hP hD hS hd => W.iret (v := v) hx hb hr (fun t ht hW => ⟨⟨v, (), rfl, Option.some.inj ho, by first | (rw [ht]; exact hP) | (dsimp only; rw [ht]; exact hP)⟩, hS.F ht⟩) hS.2.2 hd
  generalize MQ below (QRo G (ce_X1 G.2.1 a0 S0) out A) args s 0 0 A = Q at fin ⊢
  have blk34 : ∀ (v1 : Int32), f_X1_standIn_b34 S0 v1 = some out → ∀ (H : Heap) (locs : List Loc), va_P G.1 vwCl (ce_X1 G.2.1 a0 S0) H → va_D A (ce_X1 G.2.1 a0 S0) → va_S A s.heap H locs → ∀ (ls : Array Slot), lv_has ls 2 [(1, .int v1)] → W p l e (headSpec wsX1_standIn rm_X1_standIn).room s m args below meth c H locs 0 0 Q (F0 m 34 ls []) := by
    intro v1 hf H locs hP hD hS ls hl
    rw [f_X1_standIn_b34] at hf
    refine lv_iload_n hx hb dX1_standIn_34 rfl (lv_at hl 0 rfl) ?_
    exact fin _ _ _ _ _ hf hP hD hS dX1_standIn_35
  have go : ∀ (H : Heap) (locs : List Loc), va_P G.1 vwCl (ce_X1 G.2.1 a0 S0) H → va_D A (ce_X1 G.2.1 a0 S0) → va_S A s.heap H locs → ∀ (ls : Array Slot), lv_has ls 2 [(0, .ref a0.1), (1, .int p1)] → W p l e (headSpec wsX1_standIn rm_X1_standIn).room s m args below meth c H locs 0 0 Q (F0 m 0 ls []) := by
    intro H locs hP hD hS ls hl
    refine lv_aload_n hx hb dX1_standIn_0 rfl (lv_at hl 0 rfl) ?_
    refine lv_iload_n hx hb dX1_standIn_1 rfl (lv_at hl 1 rfl) ?_
    obtain ⟨r1, hr1, hf⟩ := ob_bind hf
    have hFc := va_free (wc := ce_X1 G.2.1 a0 S0) hD hS hA [0, 1, 2, 3, 4, 5] rfl
    refine zc_ro (va_runV (As := [.int p1]) (rest := []) ⟨hx, hb, hml, hown, hts⟩ (c_X1_knows l G a0 H.size S0 p1 _ hr1) (cwV 1 hts gX1_standIn_X1_knows rfl rfl rfl (by decide +kernel) ⟨Nat.le_of_ble_eq_true rfl, Nat.le_of_ble_eq_true rfl⟩) ⟨PcM.blind, va_recv hK hP (ci := 1) (q0 := 0) rfl rfl, PcM.ok hP hD hK hE hS hFc⟩ rfl rfl hl.1 rfl (lv_room (Nat.le_of_ble_eq_true rfl)) dX1_standIn_2 ⟨Nat.le_refl _, Nat.le_refl _⟩) hP hD hS hA [0, 1, 2, 3, 4, 5] rfl (fun H locs hP hS => ?_)
    refine lv_if_eq (tgt := 34) hx hb dX1_standIn_5 (by decide) (fun c2 => ?_) (fun c2 => ?_)
    · replace hf := ob_pos c2 hf
      exact blk34 _ hf _ _ hP hD hS _ (lv_sub hl [1] rfl)
    · replace hf := ob_neg c2 hf
      refine lv_aload_n hx hb dX1_standIn_8 rfl (lv_at hl 0 rfl) ?_
      refine lv_aload_n hx hb dX1_standIn_9 rfl (lv_at hl 0 rfl) ?_
      refine va_get (D := G.1) (ci := 1) (v := .ref a0.2.2.2.2.1) (C := RX1) (T := TX1) (N := 9) hx hb hts hinX1 hown hK hP 0 rfl rfl 3 (by decide) lk0 (fun _ h9 => h9) rfl dX1_standIn_10 ?_
      refine lv_iload_n hx hb dX1_standIn_13 rfl (lv_at hl 1 rfl) ?_
      obtain ⟨hg3, hf⟩ := ob_guard hf
      refine va_iald hx hb hK hP 4 0 rfl rfl hg3 dX1_standIn_14 ?_
      obtain ⟨r4, hr4, hf⟩ := ob_bind hf
      have hFc := va_free (wc := ce_X1 G.2.1 a0 S0) hD hS hA [0, 1, 2, 3, 4, 5] rfl
      refine zc_ro (va_runV (As := [.int (S0.2.2.2.1 p1.toNatClampNeg)]) (rest := []) ⟨hx, hb, hml, hown, hts⟩ (c_X1_knows l G a0 H.size S0 (S0.2.2.2.1 p1.toNatClampNeg) _ hr4) (cwV 1 hts gX1_standIn_X1_knows rfl rfl rfl (by decide +kernel) ⟨Nat.le_of_ble_eq_true rfl, Nat.le_of_ble_eq_true rfl⟩) ⟨PcM.blind, va_recv hK hP (ci := 1) (q0 := 0) rfl rfl, PcM.ok hP hD hK hE hS hFc⟩ rfl rfl hl.1 rfl (lv_room (Nat.le_of_ble_eq_true rfl)) dX1_standIn_15 ⟨Nat.le_refl _, Nat.le_refl _⟩) hP hD hS hA [0, 1, 2, 3, 4, 5] rfl (fun H locs hP hS => ?_)
      refine lv_if_eq (tgt := 34) hx hb dX1_standIn_18 (by decide) (fun c5 => ?_) (fun c5 => ?_)
      · replace hf := ob_pos c5 hf
        exact blk34 _ hf _ _ hP hD hS _ (lv_sub hl [1] rfl)
      · replace hf := ob_neg c5 hf
        refine lv_iload_n hx hb dX1_standIn_21 rfl (lv_at hl 1 rfl) ?_
        refine lv_aload_n hx hb dX1_standIn_22 rfl (lv_at hl 0 rfl) ?_
        refine va_get (D := G.1) (ci := 1) (v := .ref a0.2.2.2.2.1) (C := RX1) (T := TX1) (N := 9) hx hb hts hinX1 hown hK hP 0 rfl rfl 3 (by decide) lk0 (fun _ h9 => h9) rfl dX1_standIn_23 ?_
        refine lv_iload_n hx hb dX1_standIn_26 rfl (lv_at hl 1 rfl) ?_
        obtain ⟨hg6, hf⟩ := ob_guard hf
        refine va_iald hx hb hK hP 4 0 rfl rfl hg6 dX1_standIn_27 ?_
        refine va_mmin hx hb (hml.trans hl.1.symm) hown lk1 lk2 lk3 lk4 (Nat.le_of_ble_eq_true rfl) (Nat.le_of_ble_eq_true rfl) (Nat.zero_le _) (Nat.zero_le _) dX1_standIn_28 ?_
        refine lv_goto (tgt := 35) hx hb dX1_standIn_31 (by decide) ?_
        exact fin _ _ _ _ _ hf hP hD hS dX1_standIn_35
  exact go _ _ hP hD hS _ hl
abbrev rm_X1_newOf : Room := { frames := 4, cells := 0, slots := 0, locals := 88 }
set_option maxHeartbeats 4000000 in
set_option maxRecDepth 100000 in
theorem c_X1_newOf (l : Launch) (G : zG) (a0 : AT_X1) (sz : Nat) (S0 : ST_X1) (p1 : Int32) (out : Int32) (hf : f_X1_newOf S0 p1 = some out) : Met l yX1_newOf wsX1_newOf rm_X1_newOf (PcM G (ce_X1 G.2.1 a0 S0) [.ref a0.1, .int p1] sz) (QRo G (ce_X1 G.2.1 a0 S0) out (va_A (ce_X1 G.2.1 a0 S0) sz)) 0 0 (va_A (ce_X1 G.2.1 a0 S0) sz) := by
  rw [f_X1_newOf] at hf
  refine Met.ofW (cc := cX1_newOf) (maxL := 4) (ret := (some .int)) (by decide) rfl ?_
  intro p e s m args below meth c s₁ B hml hv
  obtain ⟨hargs, hsz, hP, hK, hD0, hE⟩ := hv
  have hx := B.exec
  have hb := B.bytes
  have hr := B.returns
  have hts := atoms_spec (ws := wsX1_newOf) B.pre
  have hown : s.vm.findClass RX1 = some m.cls := findClass_of_methodNamed B.named
  have hlocks := B.notSynchronized
  subst hsz
  have hD := hD0.self (sz := s.heap.size)
  generalize hAe : va_A (ce_X1 G.2.1 a0 S0) s.heap.size = A at hD hE ⊢
  have hA : ∀ q : Nat, s.heap.size ≤ q → A q := fun q h => by rw [← hAe]; exact Or.inr h
  have hS : va_S A s.heap s.heap [] := va_S.rf
  have hl := lv_entry ([.ref a0.1, .int p1]) (n := 4) (Nat.le_of_ble_eq_true rfl)
  have hent : entryFrame m args 4 = F0 m 0 ((lg_sl ([.ref a0.1, .int p1]) ++ List.replicate (4 - (lg_sl ([.ref a0.1, .int p1])).length) Slot.unset).toArray) [] := by rw [hargs, lg_entry_eq]
  rw [hent]
  clear hent
  generalize (lg_sl ([.ref a0.1, .int p1]) ++ List.replicate (4 - (lg_sl ([.ref a0.1, .int p1])).length) Slot.unset).toArray = ls at hl ⊢
  have hl : lv_has ls 4 [(0, .ref a0.1), (1, .int p1)] := hl
  have lk0 := hts (Cond.fieldLink RX1 33 "EnginesOnList$Fleet" "size" "I") (List.mem_of_getElem? (i := 1) rfl)
  have lk1 := hts (Cond.fieldLink RX1 40 "EnginesOnList$Fleet" "underlined" "I") (List.mem_of_getElem? (i := 2) rfl)
  have hinX1 : ∀ w ∈ wsX10, w ∈ wsX1_newOf := by decide +kernel
  have fin : ∀ (pc : Nat) (v : Int32) (H : Heap) (locs : List Loc) (ls : Array Slot), some v = some out → va_P G.1 vwCl (ce_X1 G.2.1 a0 S0) H → va_D A (ce_X1 G.2.1 a0 S0) → va_S A s.heap H locs → decode cX1_newOf pc = .ok (.ireturn, 1) → W p l e (headSpec wsX1_newOf rm_X1_newOf).room s m args below meth c H locs 0 0 (MQ below (QRo G (ce_X1 G.2.1 a0 S0) out A) args s 0 0 A) (F0 m pc ls [.int v]) := fun pc v H locs ls ho hP hD hS hd => W.iret (v := v) hx hb hr (fun t ht hW => ⟨⟨v, (), rfl, Option.some.inj ho, by first | (rw [ht]; exact hP) | (dsimp only; rw [ht]; exact hP)⟩, hS.F ht⟩) hS.2.2 hd
  generalize MQ below (QRo G (ce_X1 G.2.1 a0 S0) out A) args s 0 0 A = Q at fin ⊢
  have blk4 : ∀ (fu4 : Nat), ∀ (v1 : Int32) (v2 : Int32) (v3 : Int32), f_X1_newOf_b4 S0 fu4 v1 v2 v3 = some out → ∀ (H : Heap) (locs : List Loc), va_P G.1 vwCl (ce_X1 G.2.1 a0 S0) H → va_D A (ce_X1 G.2.1 a0 S0) → va_S A s.heap H locs → ∀ (ls : Array Slot), lv_has ls 4 [(0, .ref a0.1), (1, .int v1), (2, .int v2), (3, .int v3)] → W p l e (headSpec wsX1_newOf rm_X1_newOf).room s m args below meth c H locs 0 0 Q (F0 m 4 ls []) := by
    intro fu4
    induction fu4 with
    | zero => intro v1 v2 v3 hf; exact ob_none hf
    | succ fu4 ih4 =>
      intro v1 v2 v3 hf H locs hP hD hS ls hl
      rw [f_X1_newOf_b4] at hf
      have blk46 : ∀ (v1 : Int32) (v2 : Int32) (v3 : Int32), f_X1_newOf_b46 S0 (f_X1_newOf_b4 S0 fu4) v1 v2 v3 = some out → ∀ (H : Heap) (locs : List Loc), va_P G.1 vwCl (ce_X1 G.2.1 a0 S0) H → va_D A (ce_X1 G.2.1 a0 S0) → va_S A s.heap H locs → ∀ (ls : Array Slot), lv_has ls 4 [(0, .ref a0.1), (1, .int v1), (2, .int v2), (3, .int v3)] → W p l e (headSpec wsX1_newOf rm_X1_newOf).room s m args below meth c H locs 0 0 Q (F0 m 46 ls []) := by
        intro v1 v2 v3 hf H locs hP hD hS ls hl
        rw [f_X1_newOf_b46] at hf
        refine lv_iinc (v := v3 + 1) (lv' := [(3, .int (v3 + 1)), (0, .ref a0.1), (1, .int v1), (2, .int v2)]) hx hb dX1_newOf_46 hl (k := 3) rfl rfl (by decide) rfl (fun ls hl => ?_)
        refine lv_goto (tgt := 4) hx hb dX1_newOf_49 (by decide) ?_
        exact ih4 _ _ _ hf _ _ hP hD hS _ (lv_sub hl [1, 2, 3, 0] rfl)
      refine lv_iload_n hx hb dX1_newOf_4 rfl (lv_at hl 3 rfl) ?_
      refine lv_aload_n hx hb dX1_newOf_5 rfl (lv_at hl 0 rfl) ?_
      refine va_get (D := G.1) (ci := 1) (v := .int S0.2.2.2.2.2.1) (C := RX1) (T := TX1) (N := 9) hx hb hts hinX1 hown hK hP 0 rfl rfl 5 (by decide) lk0 (fun _ h9 => h9) rfl dX1_newOf_6 ?_
      refine lv_icmp_ge (tgt := 52) hx hb dX1_newOf_9 (by decide) (fun c1 => ?_) (fun c1 => ?_)
      · replace hf := ob_pos c1 hf
        refine lv_iload_n hx hb dX1_newOf_52 rfl (lv_at hl 2 rfl) ?_
        exact fin _ _ _ _ _ hf hP hD hS dX1_newOf_53
      · replace hf := ob_neg c1 hf
        refine lv_iload_n hx hb dX1_newOf_12 rfl (lv_at hl 1 rfl) ?_
        refine lv_aload_n hx hb dX1_newOf_13 rfl (lv_at hl 0 rfl) ?_
        refine lv_iload_n hx hb dX1_newOf_14 rfl (lv_at hl 3 rfl) ?_
        obtain ⟨r2, hr2, hf⟩ := ob_bind hf
        have hFc := va_free (wc := ce_X1 G.2.1 a0 S0) hD hS hA [0, 1, 2, 3, 4, 5] rfl
        refine zc_ro (va_runV (As := [.int v3]) (rest := [.int v1]) ⟨hx, hb, hml, hown, hts⟩ (c_X1_bit l G a0 H.size S0 v3 _ hr2) (cwV 1 hts gX1_newOf_X1_bit rfl rfl rfl (by decide +kernel) ⟨Nat.le_of_ble_eq_true rfl, Nat.le_of_ble_eq_true rfl⟩) ⟨PcM.blind, va_recv hK hP (ci := 1) (q0 := 0) rfl rfl, PcM.ok hP hD hK hE hS hFc⟩ rfl rfl hl.1 rfl (lv_room (Nat.le_of_ble_eq_true rfl)) dX1_newOf_15 ⟨Nat.le_refl _, Nat.le_refl _⟩) hP hD hS hA [0, 1, 2, 3, 4, 5] rfl (fun H locs hP hS => ?_)
        refine lv_iand hx hb dX1_newOf_18 ?_
        refine lv_if_eq (tgt := 46) hx hb dX1_newOf_19 (by decide) (fun c3 => ?_) (fun c3 => ?_)
        · replace hf := ob_pos c3 hf
          exact blk46 _ _ _ hf _ _ hP hD hS _ (lv_sub hl [0, 1, 2, 3] rfl)
        · replace hf := ob_neg c3 hf
          refine lv_aload_n hx hb dX1_newOf_22 rfl (lv_at hl 0 rfl) ?_
          refine lv_aload_n hx hb dX1_newOf_23 rfl (lv_at hl 0 rfl) ?_
          refine va_get (D := G.1) (ci := 1) (v := .int S0.2.2.2.2.2.2.2.1) (C := RX1) (T := TX1) (N := 9) hx hb hts hinX1 hown hK hP 0 rfl rfl 7 (by decide) lk1 (fun _ h9 => h9) rfl dX1_newOf_24 ?_
          refine lv_iload_n hx hb dX1_newOf_27 rfl (lv_at hl 3 rfl) ?_
          obtain ⟨r4, hr4, hf⟩ := ob_bind hf
          have hFc := va_free (wc := ce_X1 G.2.1 a0 S0) hD hS hA [0, 1, 2, 3, 4, 5] rfl
          refine zc_ro (va_runV (As := [.int S0.2.2.2.2.2.2.2.1, .int v3]) (rest := []) ⟨hx, hb, hml, hown, hts⟩ (c_X1_isOn l G a0 H.size S0 S0.2.2.2.2.2.2.2.1 v3 _ hr4) (cwV 2 hts gX1_newOf_X1_isOn rfl rfl rfl (by decide +kernel) ⟨Nat.le_of_ble_eq_true rfl, Nat.le_of_ble_eq_true rfl⟩) ⟨PcM.blind, va_recv hK hP (ci := 1) (q0 := 0) rfl rfl, PcM.ok hP hD hK hE hS hFc⟩ rfl rfl hl.1 rfl (lv_room (Nat.le_of_ble_eq_true rfl)) dX1_newOf_28 ⟨Nat.le_refl _, Nat.le_refl _⟩) hP hD hS hA [0, 1, 2, 3, 4, 5] rfl (fun H locs hP hS => ?_)
          refine lv_if_ne (tgt := 46) hx hb dX1_newOf_31 (by decide) (fun c5 => ?_) (fun c5 => ?_)
          · replace hf := ob_neg c5 hf
            exact blk46 _ _ _ hf _ _ hP hD hS _ (lv_sub hl [0, 1, 2, 3] rfl)
          · replace hf := ob_pos c5 hf
            refine lv_iload_n hx hb dX1_newOf_34 rfl (lv_at hl 2 rfl) ?_
            refine lv_aload_n hx hb dX1_newOf_35 rfl (lv_at hl 0 rfl) ?_
            refine lv_aload_n hx hb dX1_newOf_36 rfl (lv_at hl 0 rfl) ?_
            refine lv_iload_n hx hb dX1_newOf_37 rfl (lv_at hl 3 rfl) ?_
            obtain ⟨r6, hr6, hf⟩ := ob_bind hf
            have hFc := va_free (wc := ce_X1 G.2.1 a0 S0) hD hS hA [0, 1, 2, 3, 4, 5] rfl
            refine zc_ro (va_runV (As := [.int v3]) (rest := [.ref a0.1, .int v2]) ⟨hx, hb, hml, hown, hts⟩ (c_X1_standIn l G a0 H.size S0 v3 _ hr6) (cwV 1 hts gX1_newOf_X1_standIn rfl rfl rfl (by decide +kernel) ⟨Nat.le_of_ble_eq_true rfl, Nat.le_of_ble_eq_true rfl⟩) ⟨PcM.blind, va_recv hK hP (ci := 1) (q0 := 0) rfl rfl, PcM.ok hP hD hK hE hS hFc⟩ rfl rfl hl.1 rfl (lv_room (Nat.le_of_ble_eq_true rfl)) dX1_newOf_38 ⟨Nat.le_refl _, Nat.le_refl _⟩) hP hD hS hA [0, 1, 2, 3, 4, 5] rfl (fun H locs hP hS => ?_)
            obtain ⟨r7, hr7, hf⟩ := ob_bind hf
            have hFc := va_free (wc := ce_X1 G.2.1 a0 S0) hD hS hA [0, 1, 2, 3, 4, 5] rfl
            refine zc_ro (va_runV (As := [.int r6]) (rest := [.int v2]) ⟨hx, hb, hml, hown, hts⟩ (c_X1_bit l G a0 H.size S0 r6 _ hr7) (cwV 1 hts gX1_newOf_X1_bit rfl rfl rfl (by decide +kernel) ⟨Nat.le_of_ble_eq_true rfl, Nat.le_of_ble_eq_true rfl⟩) ⟨PcM.blind, va_recv hK hP (ci := 1) (q0 := 0) rfl rfl, PcM.ok hP hD hK hE hS hFc⟩ rfl rfl hl.1 rfl (lv_room (Nat.le_of_ble_eq_true rfl)) dX1_newOf_41 ⟨Nat.le_refl _, Nat.le_refl _⟩) hP hD hS hA [0, 1, 2, 3, 4, 5] rfl (fun H locs hP hS => ?_)
            refine lv_ior hx hb dX1_newOf_44 ?_
            refine lv_istore_n (lv' := [(2, .int (v2 ||| r7)), (0, .ref a0.1), (1, .int v1), (3, .int v3)]) hx hb dX1_newOf_45 rfl hl (by decide) rfl (fun ls hl => ?_)
            exact blk46 _ _ _ hf _ _ hP hD hS _ (lv_sub hl [1, 2, 0, 3] rfl)
  have go : ∀ (H : Heap) (locs : List Loc), va_P G.1 vwCl (ce_X1 G.2.1 a0 S0) H → va_D A (ce_X1 G.2.1 a0 S0) → va_S A s.heap H locs → ∀ (ls : Array Slot), lv_has ls 4 [(0, .ref a0.1), (1, .int p1)] → W p l e (headSpec wsX1_newOf rm_X1_newOf).room s m args below meth c H locs 0 0 Q (F0 m 0 ls []) := by
    intro H locs hP hD hS ls hl
    refine lv_iconst (v := 0) hx hb dX1_newOf_0 (by decide) ?_
    refine lv_istore_n (lv' := [(2, .int 0), (0, .ref a0.1), (1, .int p1)]) hx hb dX1_newOf_1 rfl hl (by decide) rfl (fun ls hl => ?_)
    refine lv_iconst (v := 0) hx hb dX1_newOf_2 (by decide) ?_
    refine lv_istore_n (lv' := [(3, .int 0), (2, .int 0), (0, .ref a0.1), (1, .int p1)]) hx hb dX1_newOf_3 rfl hl (by decide) rfl (fun ls hl => ?_)
    exact blk4 4096 _ _ _ hf _ _ hP hD hS _ (lv_sub hl [2, 3, 1, 0] rfl)
  exact go _ _ hP hD hS _ hl
abbrev rm_J6_bitCount_0f7a4 : Room := { frames := 1, cells := 0, slots := 0, locals := 24 }
set_option maxHeartbeats 4000000 in
set_option maxRecDepth 100000 in
theorem c_J6_bitCount_0f7a4 (l : Launch) (G : zG) (sz : Nat) (p0 : Int32) (out : Int32) (hf : f_J6_bitCount_0f7a4 p0 = some out) : Met l yJ6_bitCount_0f7a4 wsJ6_bitCount_0f7a4 rm_J6_bitCount_0f7a4 (PcM G (([] : va_W)) [.int p0] sz) (QRo G (([] : va_W)) out (va_A (([] : va_W)) sz)) 0 0 (va_A (([] : va_W)) sz) := by
  rw [f_J6_bitCount_0f7a4] at hf
  refine Met.ofW (cc := cJ6_bitCount_0f7a4) (maxL := 1) (ret := (some .int)) (by decide) rfl ?_
  intro p e s m args below meth c s₁ B hml hv
  obtain ⟨hargs, hsz, hP, hK, hD0, hE⟩ := hv
  have hx := B.exec
  have hb := B.bytes
  have hr := B.returns
  have hts := atoms_spec (ws := wsJ6_bitCount_0f7a4) B.pre
  have hown : s.vm.findClass RJ6 = some m.cls := findClass_of_methodNamed B.named
  have hlocks := B.notSynchronized
  subst hsz
  have hD := hD0.self (sz := s.heap.size)
  generalize hAe : va_A (([] : va_W)) s.heap.size = A at hD hE ⊢
  have hA : ∀ q : Nat, s.heap.size ≤ q → A q := fun q h => by rw [← hAe]; exact Or.inr h
  have hS : va_S A s.heap s.heap [] := va_S.rf
  have hl := lv_entry ([.int p0]) (n := 1) (Nat.le_of_ble_eq_true rfl)
  have hent : entryFrame m args 1 = F0 m 0 ((lg_sl ([.int p0]) ++ List.replicate (1 - (lg_sl ([.int p0])).length) Slot.unset).toArray) [] := by rw [hargs, lg_entry_eq]
  rw [hent]
  clear hent
  generalize (lg_sl ([.int p0]) ++ List.replicate (1 - (lg_sl ([.int p0])).length) Slot.unset).toArray = ls at hl ⊢
  have hl : lv_has ls 1 [(0, .int p0)] := hl
  have lk0 := hts (Cond.constant RJ6 265 (1431655765)) (List.mem_of_getElem? (i := 1) rfl)
  have lk1 := hts (Cond.constant RJ6 266 (858993459)) (List.mem_of_getElem? (i := 2) rfl)
  have lk2 := hts (Cond.constant RJ6 267 (252645135)) (List.mem_of_getElem? (i := 3) rfl)
  have fin : ∀ (pc : Nat) (v : Int32) (H : Heap) (locs : List Loc) (ls : Array Slot), some v = some out → va_P G.1 vwCl (([] : va_W)) H → va_D A (([] : va_W)) → va_S A s.heap H locs → decode cJ6_bitCount_0f7a4 pc = .ok (.ireturn, 1) → W p l e (headSpec wsJ6_bitCount_0f7a4 rm_J6_bitCount_0f7a4).room s m args below meth c H locs 0 0 (MQ below (QRo G (([] : va_W)) out A) args s 0 0 A) (F0 m pc ls [.int v]) := fun pc v H locs ls ho hP hD hS hd => W.iret (v := v) hx hb hr (fun t ht hW => ⟨⟨v, (), rfl, Option.some.inj ho, by first | (rw [ht]; exact hP) | (dsimp only; rw [ht]; exact hP)⟩, hS.F ht⟩) hS.2.2 hd
  generalize MQ below (QRo G (([] : va_W)) out A) args s 0 0 A = Q at fin ⊢
  have go : ∀ (H : Heap) (locs : List Loc), va_P G.1 vwCl (([] : va_W)) H → va_D A (([] : va_W)) → va_S A s.heap H locs → ∀ (ls : Array Slot), lv_has ls 1 [(0, .int p0)] → W p l e (headSpec wsJ6_bitCount_0f7a4 rm_J6_bitCount_0f7a4).room s m args below meth c H locs 0 0 Q (F0 m 0 ls []) := by
    intro H locs hP hD hS ls hl
    refine lv_iload_n hx hb dJ6_bitCount_0f7a4_0 rfl (lv_at hl 0 rfl) ?_
    refine lv_iload_n hx hb dJ6_bitCount_0f7a4_1 rfl (lv_at hl 0 rfl) ?_
    refine lv_iconst (v := 1) hx hb dJ6_bitCount_0f7a4_2 (by decide) ?_
    refine lv_iushr hx hb dJ6_bitCount_0f7a4_3 rfl ?_
    refine lv_ldcw (v := 1431655765) hx hb hown lk0 dJ6_bitCount_0f7a4_4 ?_
    refine lv_iand hx hb dJ6_bitCount_0f7a4_7 ?_
    refine lv_isub hx hb dJ6_bitCount_0f7a4_8 ?_
    refine lv_istore_n (lv' := [(0, .int (p0 - (((p0.toUInt32 >>> ((1 : Int32).toUInt32 &&& Int32.toUInt32 31)).toInt32) &&& 1431655765)))]) hx hb dJ6_bitCount_0f7a4_9 rfl hl (by decide) rfl (fun ls hl => ?_)
    refine lv_iload_n hx hb dJ6_bitCount_0f7a4_10 rfl (lv_at hl 0 rfl) ?_
    refine lv_ldcw (v := 858993459) hx hb hown lk1 dJ6_bitCount_0f7a4_11 ?_
    refine lv_iand hx hb dJ6_bitCount_0f7a4_14 ?_
    refine lv_iload_n hx hb dJ6_bitCount_0f7a4_15 rfl (lv_at hl 0 rfl) ?_
    refine lv_iconst (v := 2) hx hb dJ6_bitCount_0f7a4_16 (by decide) ?_
    refine lv_iushr hx hb dJ6_bitCount_0f7a4_17 rfl ?_
    refine lv_ldcw (v := 858993459) hx hb hown lk1 dJ6_bitCount_0f7a4_18 ?_
    refine lv_iand hx hb dJ6_bitCount_0f7a4_21 ?_
    refine lv_iadd hx hb dJ6_bitCount_0f7a4_22 ?_
    refine lv_istore_n (lv' := [(0, .int (((p0 - (((p0.toUInt32 >>> ((1 : Int32).toUInt32 &&& Int32.toUInt32 31)).toInt32) &&& 1431655765)) &&& 858993459) + ((((p0 - (((p0.toUInt32 >>> ((1 : Int32).toUInt32 &&& Int32.toUInt32 31)).toInt32) &&& 1431655765)).toUInt32 >>> ((2 : Int32).toUInt32 &&& Int32.toUInt32 31)).toInt32) &&& 858993459)))]) hx hb dJ6_bitCount_0f7a4_23 rfl hl (by decide) rfl (fun ls hl => ?_)
    refine lv_iload_n hx hb dJ6_bitCount_0f7a4_24 rfl (lv_at hl 0 rfl) ?_
    refine lv_iload_n hx hb dJ6_bitCount_0f7a4_25 rfl (lv_at hl 0 rfl) ?_
    refine lv_iconst (v := 4) hx hb dJ6_bitCount_0f7a4_26 (by decide) ?_
    refine lv_iushr hx hb dJ6_bitCount_0f7a4_27 rfl ?_
    refine lv_iadd hx hb dJ6_bitCount_0f7a4_28 ?_
    refine lv_ldcw (v := 252645135) hx hb hown lk2 dJ6_bitCount_0f7a4_29 ?_
    refine lv_iand hx hb dJ6_bitCount_0f7a4_32 ?_
    refine lv_istore_n (lv' := [(0, .int (((((p0 - (((p0.toUInt32 >>> ((1 : Int32).toUInt32 &&& Int32.toUInt32 31)).toInt32) &&& 1431655765)) &&& 858993459) + ((((p0 - (((p0.toUInt32 >>> ((1 : Int32).toUInt32 &&& Int32.toUInt32 31)).toInt32) &&& 1431655765)).toUInt32 >>> ((2 : Int32).toUInt32 &&& Int32.toUInt32 31)).toInt32) &&& 858993459)) + (((((p0 - (((p0.toUInt32 >>> ((1 : Int32).toUInt32 &&& Int32.toUInt32 31)).toInt32) &&& 1431655765)) &&& 858993459) + ((((p0 - (((p0.toUInt32 >>> ((1 : Int32).toUInt32 &&& Int32.toUInt32 31)).toInt32) &&& 1431655765)).toUInt32 >>> ((2 : Int32).toUInt32 &&& Int32.toUInt32 31)).toInt32) &&& 858993459)).toUInt32 >>> ((4 : Int32).toUInt32 &&& Int32.toUInt32 31)).toInt32)) &&& 252645135))]) hx hb dJ6_bitCount_0f7a4_33 rfl hl (by decide) rfl (fun ls hl => ?_)
    refine lv_iload_n hx hb dJ6_bitCount_0f7a4_34 rfl (lv_at hl 0 rfl) ?_
    refine lv_iload_n hx hb dJ6_bitCount_0f7a4_35 rfl (lv_at hl 0 rfl) ?_
    refine lv_bipush (v := 8) hx hb dJ6_bitCount_0f7a4_36 (by decide) ?_
    refine lv_iushr hx hb dJ6_bitCount_0f7a4_38 rfl ?_
    refine lv_iadd hx hb dJ6_bitCount_0f7a4_39 ?_
    refine lv_istore_n (lv' := [(0, .int ((((((p0 - (((p0.toUInt32 >>> ((1 : Int32).toUInt32 &&& Int32.toUInt32 31)).toInt32) &&& 1431655765)) &&& 858993459) + ((((p0 - (((p0.toUInt32 >>> ((1 : Int32).toUInt32 &&& Int32.toUInt32 31)).toInt32) &&& 1431655765)).toUInt32 >>> ((2 : Int32).toUInt32 &&& Int32.toUInt32 31)).toInt32) &&& 858993459)) + (((((p0 - (((p0.toUInt32 >>> ((1 : Int32).toUInt32 &&& Int32.toUInt32 31)).toInt32) &&& 1431655765)) &&& 858993459) + ((((p0 - (((p0.toUInt32 >>> ((1 : Int32).toUInt32 &&& Int32.toUInt32 31)).toInt32) &&& 1431655765)).toUInt32 >>> ((2 : Int32).toUInt32 &&& Int32.toUInt32 31)).toInt32) &&& 858993459)).toUInt32 >>> ((4 : Int32).toUInt32 &&& Int32.toUInt32 31)).toInt32)) &&& 252645135) + (((((((p0 - (((p0.toUInt32 >>> ((1 : Int32).toUInt32 &&& Int32.toUInt32 31)).toInt32) &&& 1431655765)) &&& 858993459) + ((((p0 - (((p0.toUInt32 >>> ((1 : Int32).toUInt32 &&& Int32.toUInt32 31)).toInt32) &&& 1431655765)).toUInt32 >>> ((2 : Int32).toUInt32 &&& Int32.toUInt32 31)).toInt32) &&& 858993459)) + (((((p0 - (((p0.toUInt32 >>> ((1 : Int32).toUInt32 &&& Int32.toUInt32 31)).toInt32) &&& 1431655765)) &&& 858993459) + ((((p0 - (((p0.toUInt32 >>> ((1 : Int32).toUInt32 &&& Int32.toUInt32 31)).toInt32) &&& 1431655765)).toUInt32 >>> ((2 : Int32).toUInt32 &&& Int32.toUInt32 31)).toInt32) &&& 858993459)).toUInt32 >>> ((4 : Int32).toUInt32 &&& Int32.toUInt32 31)).toInt32)) &&& 252645135).toUInt32 >>> ((8 : Int32).toUInt32 &&& Int32.toUInt32 31)).toInt32)))]) hx hb dJ6_bitCount_0f7a4_40 rfl hl (by decide) rfl (fun ls hl => ?_)
    refine lv_iload_n hx hb dJ6_bitCount_0f7a4_41 rfl (lv_at hl 0 rfl) ?_
    refine lv_iload_n hx hb dJ6_bitCount_0f7a4_42 rfl (lv_at hl 0 rfl) ?_
    refine lv_bipush (v := 16) hx hb dJ6_bitCount_0f7a4_43 (by decide) ?_
    refine lv_iushr hx hb dJ6_bitCount_0f7a4_45 rfl ?_
    refine lv_iadd hx hb dJ6_bitCount_0f7a4_46 ?_
    refine lv_istore_n (lv' := [(0, .int (((((((p0 - (((p0.toUInt32 >>> ((1 : Int32).toUInt32 &&& Int32.toUInt32 31)).toInt32) &&& 1431655765)) &&& 858993459) + ((((p0 - (((p0.toUInt32 >>> ((1 : Int32).toUInt32 &&& Int32.toUInt32 31)).toInt32) &&& 1431655765)).toUInt32 >>> ((2 : Int32).toUInt32 &&& Int32.toUInt32 31)).toInt32) &&& 858993459)) + (((((p0 - (((p0.toUInt32 >>> ((1 : Int32).toUInt32 &&& Int32.toUInt32 31)).toInt32) &&& 1431655765)) &&& 858993459) + ((((p0 - (((p0.toUInt32 >>> ((1 : Int32).toUInt32 &&& Int32.toUInt32 31)).toInt32) &&& 1431655765)).toUInt32 >>> ((2 : Int32).toUInt32 &&& Int32.toUInt32 31)).toInt32) &&& 858993459)).toUInt32 >>> ((4 : Int32).toUInt32 &&& Int32.toUInt32 31)).toInt32)) &&& 252645135) + (((((((p0 - (((p0.toUInt32 >>> ((1 : Int32).toUInt32 &&& Int32.toUInt32 31)).toInt32) &&& 1431655765)) &&& 858993459) + ((((p0 - (((p0.toUInt32 >>> ((1 : Int32).toUInt32 &&& Int32.toUInt32 31)).toInt32) &&& 1431655765)).toUInt32 >>> ((2 : Int32).toUInt32 &&& Int32.toUInt32 31)).toInt32) &&& 858993459)) + (((((p0 - (((p0.toUInt32 >>> ((1 : Int32).toUInt32 &&& Int32.toUInt32 31)).toInt32) &&& 1431655765)) &&& 858993459) + ((((p0 - (((p0.toUInt32 >>> ((1 : Int32).toUInt32 &&& Int32.toUInt32 31)).toInt32) &&& 1431655765)).toUInt32 >>> ((2 : Int32).toUInt32 &&& Int32.toUInt32 31)).toInt32) &&& 858993459)).toUInt32 >>> ((4 : Int32).toUInt32 &&& Int32.toUInt32 31)).toInt32)) &&& 252645135).toUInt32 >>> ((8 : Int32).toUInt32 &&& Int32.toUInt32 31)).toInt32)) + ((((((((p0 - (((p0.toUInt32 >>> ((1 : Int32).toUInt32 &&& Int32.toUInt32 31)).toInt32) &&& 1431655765)) &&& 858993459) + ((((p0 - (((p0.toUInt32 >>> ((1 : Int32).toUInt32 &&& Int32.toUInt32 31)).toInt32) &&& 1431655765)).toUInt32 >>> ((2 : Int32).toUInt32 &&& Int32.toUInt32 31)).toInt32) &&& 858993459)) + (((((p0 - (((p0.toUInt32 >>> ((1 : Int32).toUInt32 &&& Int32.toUInt32 31)).toInt32) &&& 1431655765)) &&& 858993459) + ((((p0 - (((p0.toUInt32 >>> ((1 : Int32).toUInt32 &&& Int32.toUInt32 31)).toInt32) &&& 1431655765)).toUInt32 >>> ((2 : Int32).toUInt32 &&& Int32.toUInt32 31)).toInt32) &&& 858993459)).toUInt32 >>> ((4 : Int32).toUInt32 &&& Int32.toUInt32 31)).toInt32)) &&& 252645135) + (((((((p0 - (((p0.toUInt32 >>> ((1 : Int32).toUInt32 &&& Int32.toUInt32 31)).toInt32) &&& 1431655765)) &&& 858993459) + ((((p0 - (((p0.toUInt32 >>> ((1 : Int32).toUInt32 &&& Int32.toUInt32 31)).toInt32) &&& 1431655765)).toUInt32 >>> ((2 : Int32).toUInt32 &&& Int32.toUInt32 31)).toInt32) &&& 858993459)) + (((((p0 - (((p0.toUInt32 >>> ((1 : Int32).toUInt32 &&& Int32.toUInt32 31)).toInt32) &&& 1431655765)) &&& 858993459) + ((((p0 - (((p0.toUInt32 >>> ((1 : Int32).toUInt32 &&& Int32.toUInt32 31)).toInt32) &&& 1431655765)).toUInt32 >>> ((2 : Int32).toUInt32 &&& Int32.toUInt32 31)).toInt32) &&& 858993459)).toUInt32 >>> ((4 : Int32).toUInt32 &&& Int32.toUInt32 31)).toInt32)) &&& 252645135).toUInt32 >>> ((8 : Int32).toUInt32 &&& Int32.toUInt32 31)).toInt32)).toUInt32 >>> ((16 : Int32).toUInt32 &&& Int32.toUInt32 31)).toInt32)))]) hx hb dJ6_bitCount_0f7a4_47 rfl hl (by decide) rfl (fun ls hl => ?_)
    refine lv_iload_n hx hb dJ6_bitCount_0f7a4_48 rfl (lv_at hl 0 rfl) ?_
    refine lv_bipush (v := 63) hx hb dJ6_bitCount_0f7a4_49 (by decide) ?_
    refine lv_iand hx hb dJ6_bitCount_0f7a4_51 ?_
    exact fin _ _ _ _ _ hf hP hD hS dJ6_bitCount_0f7a4_52
  exact go _ _ hP hD hS _ hl
abbrev rm_X1_worth : Room := { frames := 2, cells := 0, slots := 0, locals := 44 }
set_option maxHeartbeats 4000000 in
set_option maxRecDepth 100000 in
theorem c_X1_worth (l : Launch) (G : zG) (a0 : AT_X1) (sz : Nat) (S0 : ST_X1) (p1 : Int32) (out : Int32) (hf : f_X1_worth S0 p1 = some out) : Met l yX1_worth wsX1_worth rm_X1_worth (PcM G (ce_X1 G.2.1 a0 S0) [.ref a0.1, .int p1] sz) (QRo G (ce_X1 G.2.1 a0 S0) out (va_A (ce_X1 G.2.1 a0 S0) sz)) 0 0 (va_A (ce_X1 G.2.1 a0 S0) sz) := by
  rw [f_X1_worth] at hf
  refine Met.ofW (cc := cX1_worth) (maxL := 2) (ret := (some .int)) (by decide) rfl ?_
  intro p e s m args below meth c s₁ B hml hv
  obtain ⟨hargs, hsz, hP, hK, hD0, hE⟩ := hv
  have hx := B.exec
  have hb := B.bytes
  have hr := B.returns
  have hts := atoms_spec (ws := wsX1_worth) B.pre
  have hown : s.vm.findClass RX1 = some m.cls := findClass_of_methodNamed B.named
  have hlocks := B.notSynchronized
  subst hsz
  have hD := hD0.self (sz := s.heap.size)
  generalize hAe : va_A (ce_X1 G.2.1 a0 S0) s.heap.size = A at hD hE ⊢
  have hA : ∀ q : Nat, s.heap.size ≤ q → A q := fun q h => by rw [← hAe]; exact Or.inr h
  have hS : va_S A s.heap s.heap [] := va_S.rf
  have hl := lv_entry ([.ref a0.1, .int p1]) (n := 2) (Nat.le_of_ble_eq_true rfl)
  have hent : entryFrame m args 2 = F0 m 0 ((lg_sl ([.ref a0.1, .int p1]) ++ List.replicate (2 - (lg_sl ([.ref a0.1, .int p1])).length) Slot.unset).toArray) [] := by rw [hargs, lg_entry_eq]
  rw [hent]
  clear hent
  generalize (lg_sl ([.ref a0.1, .int p1]) ++ List.replicate (2 - (lg_sl ([.ref a0.1, .int p1])).length) Slot.unset).toArray = ls at hl ⊢
  have hl : lv_has ls 2 [(0, .ref a0.1), (1, .int p1)] := hl
  have lk0 := hts (Cond.fieldLink RX1 37 "EnginesOnList$Fleet" "named" "I") (List.mem_of_getElem? (i := 1) rfl)
  have hinX1 : ∀ w ∈ wsX10, w ∈ wsX1_worth := by decide +kernel
  have fin : ∀ (pc : Nat) (v : Int32) (H : Heap) (locs : List Loc) (ls : Array Slot), some v = some out → va_P G.1 vwCl (ce_X1 G.2.1 a0 S0) H → va_D A (ce_X1 G.2.1 a0 S0) → va_S A s.heap H locs → decode cX1_worth pc = .ok (.ireturn, 1) → W p l e (headSpec wsX1_worth rm_X1_worth).room s m args below meth c H locs 0 0 (MQ below (QRo G (ce_X1 G.2.1 a0 S0) out A) args s 0 0 A) (F0 m pc ls [.int v]) := fun pc v H locs ls ho hP hD hS hd => W.iret (v := v) hx hb hr (fun t ht hW => ⟨⟨v, (), rfl, Option.some.inj ho, by first | (rw [ht]; exact hP) | (dsimp only; rw [ht]; exact hP)⟩, hS.F ht⟩) hS.2.2 hd
  generalize MQ below (QRo G (ce_X1 G.2.1 a0 S0) out A) args s 0 0 A = Q at fin ⊢
  have go : ∀ (H : Heap) (locs : List Loc), va_P G.1 vwCl (ce_X1 G.2.1 a0 S0) H → va_D A (ce_X1 G.2.1 a0 S0) → va_S A s.heap H locs → ∀ (ls : Array Slot), lv_has ls 2 [(0, .ref a0.1), (1, .int p1)] → W p l e (headSpec wsX1_worth rm_X1_worth).room s m args below meth c H locs 0 0 Q (F0 m 0 ls []) := by
    intro H locs hP hD hS ls hl
    refine lv_iload_n hx hb dX1_worth_0 rfl (lv_at hl 1 rfl) ?_
    obtain ⟨r1, hr1, hf⟩ := ob_bind hf
    have hPc : va_P G.1 vwCl (([] : va_W)) H := hP.sub [] rfl
    have hDc : va_D A (([] : va_W)) := hD.sub [] (by decide) rfl
    have hFc := va_free (wc := ([] : va_W)) hD hS hA [] rfl
    refine zc_ro (va_runS (As := [.int p1]) (rest := []) ⟨hx, hb, hml, hown, hts⟩ (c_J6_bitCount_0f7a4 l G H.size p1 _ hr1) (va_cwS 1 hts gX1_worth_J6_bitCount_0f7a4 rfl rfl rfl (by decide +kernel) ⟨Nat.le_of_ble_eq_true rfl, Nat.le_of_ble_eq_true rfl⟩) ⟨PcM.blind, PcM.ok hPc hDc hK hE hS hFc⟩ rfl rfl hl.1 rfl (lv_room (Nat.le_of_ble_eq_true rfl)) dX1_worth_1 ⟨Nat.le_refl _, Nat.le_refl _⟩) hP hD hS hA [] rfl (fun H locs hP hS => ?_)
    refine lv_iload_n hx hb dX1_worth_4 rfl (lv_at hl 1 rfl) ?_
    refine lv_aload_n hx hb dX1_worth_5 rfl (lv_at hl 0 rfl) ?_
    refine va_get (D := G.1) (ci := 1) (v := .int S0.2.2.2.2.2.2.1) (C := RX1) (T := TX1) (N := 9) hx hb hts hinX1 hown hK hP 0 rfl rfl 6 (by decide) lk0 (fun _ h9 => h9) rfl dX1_worth_6 ?_
    refine lv_iand hx hb dX1_worth_9 ?_
    obtain ⟨r2, hr2, hf⟩ := ob_bind hf
    have hPc : va_P G.1 vwCl (([] : va_W)) H := hP.sub [] rfl
    have hDc : va_D A (([] : va_W)) := hD.sub [] (by decide) rfl
    have hFc := va_free (wc := ([] : va_W)) hD hS hA [] rfl
    refine zc_ro (va_runS (As := [.int (p1 &&& S0.2.2.2.2.2.2.1)]) (rest := [.int r1]) ⟨hx, hb, hml, hown, hts⟩ (c_J6_bitCount_0f7a4 l G H.size (p1 &&& S0.2.2.2.2.2.2.1) _ hr2) (va_cwS 1 hts gX1_worth_J6_bitCount_0f7a4 rfl rfl rfl (by decide +kernel) ⟨Nat.le_of_ble_eq_true rfl, Nat.le_of_ble_eq_true rfl⟩) ⟨PcM.blind, PcM.ok hPc hDc hK hE hS hFc⟩ rfl rfl hl.1 rfl (lv_room (Nat.le_of_ble_eq_true rfl)) dX1_worth_10 ⟨Nat.le_refl _, Nat.le_refl _⟩) hP hD hS hA [] rfl (fun H locs hP hS => ?_)
    refine lv_iadd hx hb dX1_worth_13 ?_
    exact fin _ _ _ _ _ hf hP hD hS dX1_worth_14
  exact go _ _ hP hD hS _ hl
abbrev rm_X1_worthOfAllNew : Room := { frames := 5, cells := 0, slots := 0, locals := 111 }
set_option maxHeartbeats 4000000 in
set_option maxRecDepth 100000 in
theorem c_X1_worthOfAllNew (l : Launch) (G : zG) (a0 : AT_X1) (sz : Nat) (S0 : ST_X1) (out : Int32) (hf : f_X1_worthOfAllNew S0 = some out) : Met l yX1_worthOfAllNew wsX1_worthOfAllNew rm_X1_worthOfAllNew (PcM G (ce_X1 G.2.1 a0 S0) [.ref a0.1] sz) (QRo G (ce_X1 G.2.1 a0 S0) out (va_A (ce_X1 G.2.1 a0 S0) sz)) 0 0 (va_A (ce_X1 G.2.1 a0 S0) sz) := by
  rw [f_X1_worthOfAllNew] at hf
  refine Met.ofW (cc := cX1_worthOfAllNew) (maxL := 1) (ret := (some .int)) (by decide) rfl ?_
  intro p e s m args below meth c s₁ B hml hv
  obtain ⟨hargs, hsz, hP, hK, hD0, hE⟩ := hv
  have hx := B.exec
  have hb := B.bytes
  have hr := B.returns
  have hts := atoms_spec (ws := wsX1_worthOfAllNew) B.pre
  have hown : s.vm.findClass RX1 = some m.cls := findClass_of_methodNamed B.named
  have hlocks := B.notSynchronized
  subst hsz
  have hD := hD0.self (sz := s.heap.size)
  generalize hAe : va_A (ce_X1 G.2.1 a0 S0) s.heap.size = A at hD hE ⊢
  have hA : ∀ q : Nat, s.heap.size ≤ q → A q := fun q h => by rw [← hAe]; exact Or.inr h
  have hS : va_S A s.heap s.heap [] := va_S.rf
  have hl := lv_entry ([.ref a0.1]) (n := 1) (Nat.le_of_ble_eq_true rfl)
  have hent : entryFrame m args 1 = F0 m 0 ((lg_sl ([.ref a0.1]) ++ List.replicate (1 - (lg_sl ([.ref a0.1])).length) Slot.unset).toArray) [] := by rw [hargs, lg_entry_eq]
  rw [hent]
  clear hent
  generalize (lg_sl ([.ref a0.1]) ++ List.replicate (1 - (lg_sl ([.ref a0.1])).length) Slot.unset).toArray = ls at hl ⊢
  have hl : lv_has ls 1 [(0, .ref a0.1)] := hl
  have fin : ∀ (pc : Nat) (v : Int32) (H : Heap) (locs : List Loc) (ls : Array Slot), some v = some out → va_P G.1 vwCl (ce_X1 G.2.1 a0 S0) H → va_D A (ce_X1 G.2.1 a0 S0) → va_S A s.heap H locs → decode cX1_worthOfAllNew pc = .ok (.ireturn, 1) → W p l e (headSpec wsX1_worthOfAllNew rm_X1_worthOfAllNew).room s m args below meth c H locs 0 0 (MQ below (QRo G (ce_X1 G.2.1 a0 S0) out A) args s 0 0 A) (F0 m pc ls [.int v]) := fun pc v H locs ls ho hP hD hS hd => W.iret (v := v) hx hb hr (fun t ht hW => ⟨⟨v, (), rfl, Option.some.inj ho, by first | (rw [ht]; exact hP) | (dsimp only; rw [ht]; exact hP)⟩, hS.F ht⟩) hS.2.2 hd
  generalize MQ below (QRo G (ce_X1 G.2.1 a0 S0) out A) args s 0 0 A = Q at fin ⊢
  have go : ∀ (H : Heap) (locs : List Loc), va_P G.1 vwCl (ce_X1 G.2.1 a0 S0) H → va_D A (ce_X1 G.2.1 a0 S0) → va_S A s.heap H locs → ∀ (ls : Array Slot), lv_has ls 1 [(0, .ref a0.1)] → W p l e (headSpec wsX1_worthOfAllNew rm_X1_worthOfAllNew).room s m args below meth c H locs 0 0 Q (F0 m 0 ls []) := by
    intro H locs hP hD hS ls hl
    refine lv_aload_n hx hb dX1_worthOfAllNew_0 rfl (lv_at hl 0 rfl) ?_
    refine lv_aload_n hx hb dX1_worthOfAllNew_1 rfl (lv_at hl 0 rfl) ?_
    refine lv_bipush (v := 127) hx hb dX1_worthOfAllNew_2 (by decide) ?_
    obtain ⟨r1, hr1, hf⟩ := ob_bind hf
    have hFc := va_free (wc := ce_X1 G.2.1 a0 S0) hD hS hA [0, 1, 2, 3, 4, 5] rfl
    refine zc_ro (va_runV (As := [.int 127]) (rest := [.ref a0.1]) ⟨hx, hb, hml, hown, hts⟩ (c_X1_newOf l G a0 H.size S0 127 _ hr1) (cwV 1 hts gX1_worthOfAllNew_X1_newOf rfl rfl rfl (by decide +kernel) ⟨Nat.le_of_ble_eq_true rfl, Nat.le_of_ble_eq_true rfl⟩) ⟨PcM.blind, va_recv hK hP (ci := 1) (q0 := 0) rfl rfl, PcM.ok hP hD hK hE hS hFc⟩ rfl rfl hl.1 rfl (lv_room (Nat.le_of_ble_eq_true rfl)) dX1_worthOfAllNew_4 ⟨Nat.le_refl _, Nat.le_refl _⟩) hP hD hS hA [0, 1, 2, 3, 4, 5] rfl (fun H locs hP hS => ?_)
    obtain ⟨r2, hr2, hf⟩ := ob_bind hf
    have hFc := va_free (wc := ce_X1 G.2.1 a0 S0) hD hS hA [0, 1, 2, 3, 4, 5] rfl
    refine zc_ro (va_runV (As := [.int r1]) (rest := []) ⟨hx, hb, hml, hown, hts⟩ (c_X1_worth l G a0 H.size S0 r1 _ hr2) (cwV 1 hts gX1_worthOfAllNew_X1_worth rfl rfl rfl (by decide +kernel) ⟨Nat.le_of_ble_eq_true rfl, Nat.le_of_ble_eq_true rfl⟩) ⟨PcM.blind, va_recv hK hP (ci := 1) (q0 := 0) rfl rfl, PcM.ok hP hD hK hE hS hFc⟩ rfl rfl hl.1 rfl (lv_room (Nat.le_of_ble_eq_true rfl)) dX1_worthOfAllNew_7 ⟨Nat.le_refl _, Nat.le_refl _⟩) hP hD hS hA [0, 1, 2, 3, 4, 5] rfl (fun H locs hP hS => ?_)
    exact fin _ _ _ _ _ hf hP hD hS dX1_worthOfAllNew_10
  exact go _ _ hP hD hS _ hl
abbrev rm_X1_worthBeyondFriend : Room := { frames := 4, cells := 0, slots := 0, locals := 88 }
set_option maxHeartbeats 4000000 in
set_option maxRecDepth 100000 in
theorem c_X1_worthBeyondFriend (l : Launch) (G : zG) (a0 : AT_X1) (sz : Nat) (S0 : ST_X1) (out : Int32) (hf : f_X1_worthBeyondFriend S0 = some out) : Met l yX1_worthBeyondFriend wsX1_worthBeyondFriend rm_X1_worthBeyondFriend (PcM G (ce_X1 G.2.1 a0 S0) [.ref a0.1] sz) (QRo G (ce_X1 G.2.1 a0 S0) out (va_A (ce_X1 G.2.1 a0 S0) sz)) 0 0 (va_A (ce_X1 G.2.1 a0 S0) sz) := by
  rw [f_X1_worthBeyondFriend] at hf
  refine Met.ofW (cc := cX1_worthBeyondFriend) (maxL := 3) (ret := (some .int)) (by decide) rfl ?_
  intro p e s m args below meth c s₁ B hml hv
  obtain ⟨hargs, hsz, hP, hK, hD0, hE⟩ := hv
  have hx := B.exec
  have hb := B.bytes
  have hr := B.returns
  have hts := atoms_spec (ws := wsX1_worthBeyondFriend) B.pre
  have hown : s.vm.findClass RX1 = some m.cls := findClass_of_methodNamed B.named
  have hlocks := B.notSynchronized
  subst hsz
  have hD := hD0.self (sz := s.heap.size)
  generalize hAe : va_A (ce_X1 G.2.1 a0 S0) s.heap.size = A at hD hE ⊢
  have hA : ∀ q : Nat, s.heap.size ≤ q → A q := fun q h => by rw [← hAe]; exact Or.inr h
  have hS : va_S A s.heap s.heap [] := va_S.rf
  have hl := lv_entry ([.ref a0.1]) (n := 3) (Nat.le_of_ble_eq_true rfl)
  have hent : entryFrame m args 3 = F0 m 0 ((lg_sl ([.ref a0.1]) ++ List.replicate (3 - (lg_sl ([.ref a0.1])).length) Slot.unset).toArray) [] := by rw [hargs, lg_entry_eq]
  rw [hent]
  clear hent
  generalize (lg_sl ([.ref a0.1]) ++ List.replicate (3 - (lg_sl ([.ref a0.1])).length) Slot.unset).toArray = ls at hl ⊢
  have hl : lv_has ls 3 [(0, .ref a0.1)] := hl
  have lk0 := hts (Cond.fieldLink RX1 33 "EnginesOnList$Fleet" "size" "I") (List.mem_of_getElem? (i := 1) rfl)
  have lk1 := hts (Cond.fieldLink RX1 40 "EnginesOnList$Fleet" "underlined" "I") (List.mem_of_getElem? (i := 2) rfl)
  have lk2 := hts (Cond.fieldLink RX1 43 "EnginesOnList$Fleet" "friends" "I") (List.mem_of_getElem? (i := 3) rfl)
  have hinX1 : ∀ w ∈ wsX10, w ∈ wsX1_worthBeyondFriend := by decide +kernel
  have fin : ∀ (pc : Nat) (v : Int32) (H : Heap) (locs : List Loc) (ls : Array Slot), some v = some out → va_P G.1 vwCl (ce_X1 G.2.1 a0 S0) H → va_D A (ce_X1 G.2.1 a0 S0) → va_S A s.heap H locs → decode cX1_worthBeyondFriend pc = .ok (.ireturn, 1) → W p l e (headSpec wsX1_worthBeyondFriend rm_X1_worthBeyondFriend).room s m args below meth c H locs 0 0 (MQ below (QRo G (ce_X1 G.2.1 a0 S0) out A) args s 0 0 A) (F0 m pc ls [.int v]) := fun pc v H locs ls ho hP hD hS hd => W.iret (v := v) hx hb hr (fun t ht hW => ⟨⟨v, (), rfl, Option.some.inj ho, by first | (rw [ht]; exact hP) | (dsimp only; rw [ht]; exact hP)⟩, hS.F ht⟩) hS.2.2 hd
  generalize MQ below (QRo G (ce_X1 G.2.1 a0 S0) out A) args s 0 0 A = Q at fin ⊢
  have blk4 : ∀ (fu4 : Nat), ∀ (v1 : Int32) (v2 : Int32), f_X1_worthBeyondFriend_b4 S0 fu4 v1 v2 = some out → ∀ (H : Heap) (locs : List Loc), va_P G.1 vwCl (ce_X1 G.2.1 a0 S0) H → va_D A (ce_X1 G.2.1 a0 S0) → va_S A s.heap H locs → ∀ (ls : Array Slot), lv_has ls 3 [(0, .ref a0.1), (1, .int v1), (2, .int v2)] → W p l e (headSpec wsX1_worthBeyondFriend rm_X1_worthBeyondFriend).room s m args below meth c H locs 0 0 Q (F0 m 4 ls []) := by
    intro fu4
    induction fu4 with
    | zero => intro v1 v2 hf; exact ob_none hf
    | succ fu4 ih4 =>
      intro v1 v2 hf H locs hP hD hS ls hl
      rw [f_X1_worthBeyondFriend_b4] at hf
      have blk48 : ∀ (v1 : Int32) (v2 : Int32), f_X1_worthBeyondFriend_b48 S0 (f_X1_worthBeyondFriend_b4 S0 fu4) v1 v2 = some out → ∀ (H : Heap) (locs : List Loc), va_P G.1 vwCl (ce_X1 G.2.1 a0 S0) H → va_D A (ce_X1 G.2.1 a0 S0) → va_S A s.heap H locs → ∀ (ls : Array Slot), lv_has ls 3 [(0, .ref a0.1), (1, .int v1), (2, .int v2)] → W p l e (headSpec wsX1_worthBeyondFriend rm_X1_worthBeyondFriend).room s m args below meth c H locs 0 0 Q (F0 m 48 ls []) := by
        intro v1 v2 hf H locs hP hD hS ls hl
        rw [f_X1_worthBeyondFriend_b48] at hf
        refine lv_iinc (v := v2 + 1) (lv' := [(2, .int (v2 + 1)), (0, .ref a0.1), (1, .int v1)]) hx hb dX1_worthBeyondFriend_48 hl (k := 2) rfl rfl (by decide) rfl (fun ls hl => ?_)
        refine lv_goto (tgt := 4) hx hb dX1_worthBeyondFriend_51 (by decide) ?_
        exact ih4 _ _ hf _ _ hP hD hS _ (lv_sub hl [1, 2, 0] rfl)
      refine lv_iload_n hx hb dX1_worthBeyondFriend_4 rfl (lv_at hl 2 rfl) ?_
      refine lv_aload_n hx hb dX1_worthBeyondFriend_5 rfl (lv_at hl 0 rfl) ?_
      refine va_get (D := G.1) (ci := 1) (v := .int S0.2.2.2.2.2.1) (C := RX1) (T := TX1) (N := 9) hx hb hts hinX1 hown hK hP 0 rfl rfl 5 (by decide) lk0 (fun _ h9 => h9) rfl dX1_worthBeyondFriend_6 ?_
      refine lv_icmp_ge (tgt := 54) hx hb dX1_worthBeyondFriend_9 (by decide) (fun c1 => ?_) (fun c1 => ?_)
      · replace hf := ob_pos c1 hf
        refine lv_aload_n hx hb dX1_worthBeyondFriend_54 rfl (lv_at hl 0 rfl) ?_
        refine lv_iload_n hx hb dX1_worthBeyondFriend_55 rfl (lv_at hl 1 rfl) ?_
        obtain ⟨r2, hr2, hf⟩ := ob_bind hf
        have hFc := va_free (wc := ce_X1 G.2.1 a0 S0) hD hS hA [0, 1, 2, 3, 4, 5] rfl
        refine zc_ro (va_runV (As := [.int v1]) (rest := []) ⟨hx, hb, hml, hown, hts⟩ (c_X1_worth l G a0 H.size S0 v1 _ hr2) (cwV 1 hts gX1_worthBeyondFriend_X1_worth rfl rfl rfl (by decide +kernel) ⟨Nat.le_of_ble_eq_true rfl, Nat.le_of_ble_eq_true rfl⟩) ⟨PcM.blind, va_recv hK hP (ci := 1) (q0 := 0) rfl rfl, PcM.ok hP hD hK hE hS hFc⟩ rfl rfl hl.1 rfl (lv_room (Nat.le_of_ble_eq_true rfl)) dX1_worthBeyondFriend_56 ⟨Nat.le_refl _, Nat.le_refl _⟩) hP hD hS hA [0, 1, 2, 3, 4, 5] rfl (fun H locs hP hS => ?_)
        exact fin _ _ _ _ _ hf hP hD hS dX1_worthBeyondFriend_59
      · replace hf := ob_neg c1 hf
        refine lv_aload_n hx hb dX1_worthBeyondFriend_12 rfl (lv_at hl 0 rfl) ?_
        refine lv_aload_n hx hb dX1_worthBeyondFriend_13 rfl (lv_at hl 0 rfl) ?_
        refine va_get (D := G.1) (ci := 1) (v := .int S0.2.2.2.2.2.2.2.1) (C := RX1) (T := TX1) (N := 9) hx hb hts hinX1 hown hK hP 0 rfl rfl 7 (by decide) lk1 (fun _ h9 => h9) rfl dX1_worthBeyondFriend_14 ?_
        refine lv_iload_n hx hb dX1_worthBeyondFriend_17 rfl (lv_at hl 2 rfl) ?_
        obtain ⟨r3, hr3, hf⟩ := ob_bind hf
        have hFc := va_free (wc := ce_X1 G.2.1 a0 S0) hD hS hA [0, 1, 2, 3, 4, 5] rfl
        refine zc_ro (va_runV (As := [.int S0.2.2.2.2.2.2.2.1, .int v2]) (rest := []) ⟨hx, hb, hml, hown, hts⟩ (c_X1_isOn l G a0 H.size S0 S0.2.2.2.2.2.2.2.1 v2 _ hr3) (cwV 2 hts gX1_worthBeyondFriend_X1_isOn rfl rfl rfl (by decide +kernel) ⟨Nat.le_of_ble_eq_true rfl, Nat.le_of_ble_eq_true rfl⟩) ⟨PcM.blind, va_recv hK hP (ci := 1) (q0 := 0) rfl rfl, PcM.ok hP hD hK hE hS hFc⟩ rfl rfl hl.1 rfl (lv_room (Nat.le_of_ble_eq_true rfl)) dX1_worthBeyondFriend_18 ⟨Nat.le_refl _, Nat.le_refl _⟩) hP hD hS hA [0, 1, 2, 3, 4, 5] rfl (fun H locs hP hS => ?_)
        refine lv_if_eq (tgt := 48) hx hb dX1_worthBeyondFriend_21 (by decide) (fun c4 => ?_) (fun c4 => ?_)
        · replace hf := ob_pos c4 hf
          exact blk48 _ _ hf _ _ hP hD hS _ (lv_sub hl [0, 1, 2] rfl)
        · replace hf := ob_neg c4 hf
          refine lv_aload_n hx hb dX1_worthBeyondFriend_24 rfl (lv_at hl 0 rfl) ?_
          refine lv_aload_n hx hb dX1_worthBeyondFriend_25 rfl (lv_at hl 0 rfl) ?_
          refine va_get (D := G.1) (ci := 1) (v := .int S0.2.2.2.2.2.2.2.2) (C := RX1) (T := TX1) (N := 9) hx hb hts hinX1 hown hK hP 0 rfl rfl 8 (by decide) lk2 (fun _ h9 => h9) rfl dX1_worthBeyondFriend_26 ?_
          refine lv_iload_n hx hb dX1_worthBeyondFriend_29 rfl (lv_at hl 2 rfl) ?_
          obtain ⟨r5, hr5, hf⟩ := ob_bind hf
          have hFc := va_free (wc := ce_X1 G.2.1 a0 S0) hD hS hA [0, 1, 2, 3, 4, 5] rfl
          refine zc_ro (va_runV (As := [.int S0.2.2.2.2.2.2.2.2, .int v2]) (rest := []) ⟨hx, hb, hml, hown, hts⟩ (c_X1_isOn l G a0 H.size S0 S0.2.2.2.2.2.2.2.2 v2 _ hr5) (cwV 2 hts gX1_worthBeyondFriend_X1_isOn rfl rfl rfl (by decide +kernel) ⟨Nat.le_of_ble_eq_true rfl, Nat.le_of_ble_eq_true rfl⟩) ⟨PcM.blind, va_recv hK hP (ci := 1) (q0 := 0) rfl rfl, PcM.ok hP hD hK hE hS hFc⟩ rfl rfl hl.1 rfl (lv_room (Nat.le_of_ble_eq_true rfl)) dX1_worthBeyondFriend_30 ⟨Nat.le_refl _, Nat.le_refl _⟩) hP hD hS hA [0, 1, 2, 3, 4, 5] rfl (fun H locs hP hS => ?_)
          refine lv_if_ne (tgt := 48) hx hb dX1_worthBeyondFriend_33 (by decide) (fun c6 => ?_) (fun c6 => ?_)
          · replace hf := ob_neg c6 hf
            exact blk48 _ _ hf _ _ hP hD hS _ (lv_sub hl [0, 1, 2] rfl)
          · replace hf := ob_pos c6 hf
            refine lv_iload_n hx hb dX1_worthBeyondFriend_36 rfl (lv_at hl 1 rfl) ?_
            refine lv_aload_n hx hb dX1_worthBeyondFriend_37 rfl (lv_at hl 0 rfl) ?_
            refine lv_aload_n hx hb dX1_worthBeyondFriend_38 rfl (lv_at hl 0 rfl) ?_
            refine lv_iload_n hx hb dX1_worthBeyondFriend_39 rfl (lv_at hl 2 rfl) ?_
            obtain ⟨r7, hr7, hf⟩ := ob_bind hf
            have hFc := va_free (wc := ce_X1 G.2.1 a0 S0) hD hS hA [0, 1, 2, 3, 4, 5] rfl
            refine zc_ro (va_runV (As := [.int v2]) (rest := [.ref a0.1, .int v1]) ⟨hx, hb, hml, hown, hts⟩ (c_X1_standIn l G a0 H.size S0 v2 _ hr7) (cwV 1 hts gX1_worthBeyondFriend_X1_standIn rfl rfl rfl (by decide +kernel) ⟨Nat.le_of_ble_eq_true rfl, Nat.le_of_ble_eq_true rfl⟩) ⟨PcM.blind, va_recv hK hP (ci := 1) (q0 := 0) rfl rfl, PcM.ok hP hD hK hE hS hFc⟩ rfl rfl hl.1 rfl (lv_room (Nat.le_of_ble_eq_true rfl)) dX1_worthBeyondFriend_40 ⟨Nat.le_refl _, Nat.le_refl _⟩) hP hD hS hA [0, 1, 2, 3, 4, 5] rfl (fun H locs hP hS => ?_)
            obtain ⟨r8, hr8, hf⟩ := ob_bind hf
            have hFc := va_free (wc := ce_X1 G.2.1 a0 S0) hD hS hA [0, 1, 2, 3, 4, 5] rfl
            refine zc_ro (va_runV (As := [.int r7]) (rest := [.int v1]) ⟨hx, hb, hml, hown, hts⟩ (c_X1_bit l G a0 H.size S0 r7 _ hr8) (cwV 1 hts gX1_worthBeyondFriend_X1_bit rfl rfl rfl (by decide +kernel) ⟨Nat.le_of_ble_eq_true rfl, Nat.le_of_ble_eq_true rfl⟩) ⟨PcM.blind, va_recv hK hP (ci := 1) (q0 := 0) rfl rfl, PcM.ok hP hD hK hE hS hFc⟩ rfl rfl hl.1 rfl (lv_room (Nat.le_of_ble_eq_true rfl)) dX1_worthBeyondFriend_43 ⟨Nat.le_refl _, Nat.le_refl _⟩) hP hD hS hA [0, 1, 2, 3, 4, 5] rfl (fun H locs hP hS => ?_)
            refine lv_ior hx hb dX1_worthBeyondFriend_46 ?_
            refine lv_istore_n (lv' := [(1, .int (v1 ||| r8)), (0, .ref a0.1), (2, .int v2)]) hx hb dX1_worthBeyondFriend_47 rfl hl (by decide) rfl (fun ls hl => ?_)
            exact blk48 _ _ hf _ _ hP hD hS _ (lv_sub hl [1, 0, 2] rfl)
  have go : ∀ (H : Heap) (locs : List Loc), va_P G.1 vwCl (ce_X1 G.2.1 a0 S0) H → va_D A (ce_X1 G.2.1 a0 S0) → va_S A s.heap H locs → ∀ (ls : Array Slot), lv_has ls 3 [(0, .ref a0.1)] → W p l e (headSpec wsX1_worthBeyondFriend rm_X1_worthBeyondFriend).room s m args below meth c H locs 0 0 Q (F0 m 0 ls []) := by
    intro H locs hP hD hS ls hl
    refine lv_iconst (v := 0) hx hb dX1_worthBeyondFriend_0 (by decide) ?_
    refine lv_istore_n (lv' := [(1, .int 0), (0, .ref a0.1)]) hx hb dX1_worthBeyondFriend_1 rfl hl (by decide) rfl (fun ls hl => ?_)
    refine lv_iconst (v := 0) hx hb dX1_worthBeyondFriend_2 (by decide) ?_
    refine lv_istore_n (lv' := [(2, .int 0), (1, .int 0), (0, .ref a0.1)]) hx hb dX1_worthBeyondFriend_3 rfl hl (by decide) rfl (fun ls hl => ?_)
    exact blk4 4096 _ _ hf _ _ hP hD hS _ (lv_sub hl [2, 1, 0] rfl)
  exact go _ _ hP hD hS _ hl
abbrev rm_X2_add : Room := { frames := 1, cells := 0, slots := 0, locals := 24 }
set_option maxHeartbeats 4000000 in
set_option maxRecDepth 100000 in
theorem c_X2_add (l : Launch) (G : zG) (a0 : AT_X2) (sz : Nat) (S0 : ST_X2) (p1 : Int32) (out : Int32 × ST_X2) (hf : f_X2_add S0 p1 = some out) : Met l yX2_add wsX2_add rm_X2_add (PcM G (ce_X2 G.2.1 a0 S0) [.ref a0.1, .int p1] sz) (QWr G (fun u => ce_X2 G.2.1 a0 u) out (va_A (ce_X2 G.2.1 a0 S0) sz)) 0 0 (va_A (ce_X2 G.2.1 a0 S0) sz) := by
  rw [f_X2_add] at hf
  refine Met.ofW (cc := cX2_add) (maxL := 2) (ret := (some .boolean)) (by decide) rfl ?_
  intro p e s m args below meth c s₁ B hml hv
  obtain ⟨hargs, hsz, hP, hK, hD0, hE⟩ := hv
  have hx := B.exec
  have hb := B.bytes
  have hr := B.returns
  have hts := atoms_spec (ws := wsX2_add) B.pre
  have hown : s.vm.findClass RX2 = some m.cls := findClass_of_methodNamed B.named
  have hlocks := B.notSynchronized
  subst hsz
  have hD := hD0.self (sz := s.heap.size)
  generalize hAe : va_A (ce_X2 G.2.1 a0 S0) s.heap.size = A at hD hE ⊢
  have hA : ∀ q : Nat, s.heap.size ≤ q → A q := fun q h => by rw [← hAe]; exact Or.inr h
  have hS : va_S A s.heap s.heap [] := va_S.rf
  have hl := lv_entry ([.ref a0.1, .int p1]) (n := 2) (Nat.le_of_ble_eq_true rfl)
  have hent : entryFrame m args 2 = F0 m 0 ((lg_sl ([.ref a0.1, .int p1]) ++ List.replicate (2 - (lg_sl ([.ref a0.1, .int p1])).length) Slot.unset).toArray) [] := by rw [hargs, lg_entry_eq]
  rw [hent]
  clear hent
  generalize (lg_sl ([.ref a0.1, .int p1]) ++ List.replicate (2 - (lg_sl ([.ref a0.1, .int p1])).length) Slot.unset).toArray = ls at hl ⊢
  have hl : lv_has ls 2 [(0, .ref a0.1), (1, .int p1)] := hl
  have lk0 := hts (Cond.fieldLink RX2 15 "EnginesOnList$Letters" "size" "I") (List.mem_of_getElem? (i := 1) rfl)
  have lk1 := hts (Cond.fieldLink RX2 9 "EnginesOnList$Letters" "signs" "[I") (List.mem_of_getElem? (i := 2) rfl)
  have hinX2 : ∀ w ∈ wsX20, w ∈ wsX2_add := by decide +kernel
  have fin : ∀ (pc : Nat) (v : Int32) (u : ST_X2) (H : Heap) (locs : List Loc) (ls : Array Slot), some (v, u) = some out → narrow .boolean (.int v) = .int v → va_P G.1 vwCl (ce_X2 G.2.1 a0 u) H → va_D A (ce_X2 G.2.1 a0 u) → va_S A s.heap H locs → decode cX2_add pc = .ok (.ireturn, 1) → W p l e (headSpec wsX2_add rm_X2_add).room s m args below meth c H locs 0 0 (MQ below (QWr G (fun u => ce_X2 G.2.1 a0 u) out A) args s 0 0 A) (F0 m pc ls [.int v]) := fun pc v u H locs ls ho hn hP hD hS hd => W.zret (v := v) hx hb hr hn (fun t ht hW => ⟨⟨v, u, rfl, ob_pair ho, by first | (rw [ht]; exact hP) | (dsimp only; rw [ht]; exact hP), hD⟩, hS.F ht⟩) hS.2.2 hd
  generalize MQ below (QWr G (fun u => ce_X2 G.2.1 a0 u) out A) args s 0 0 A = Q at fin ⊢
  have go : ∀ (H : Heap) (locs : List Loc), va_P G.1 vwCl (ce_X2 G.2.1 a0 S0) H → va_D A (ce_X2 G.2.1 a0 S0) → va_S A s.heap H locs → ∀ (ls : Array Slot), lv_has ls 2 [(0, .ref a0.1), (1, .int p1)] → W p l e (headSpec wsX2_add rm_X2_add).room s m args below meth c H locs 0 0 Q (F0 m 0 ls []) := by
    intro H locs hP hD hS ls hl
    refine lv_aload_n hx hb dX2_add_0 rfl (lv_at hl 0 rfl) ?_
    refine va_get (D := G.1) (ci := 2) (v := .int S0.2) (C := RX2) (T := TX2) (N := 2) hx hb hts hinX2 hown hK hP 0 rfl rfl 1 (by decide) lk0 (fun _ h9 => h9) rfl dX2_add_1 ?_
    refine lv_bipush (v := 64) hx hb dX2_add_4 (by decide) ?_
    refine lv_icmp_lt (tgt := 11) hx hb dX2_add_6 (by decide) (fun c1 => ?_) (fun c1 => ?_)
    · replace hf := ob_pos c1 hf
      refine lv_aload_n hx hb dX2_add_11 rfl (lv_at hl 0 rfl) ?_
      refine va_get (D := G.1) (ci := 2) (v := .ref a0.2) (C := RX2) (T := TX2) (N := 2) hx hb hts hinX2 hown hK hP 0 rfl rfl 0 (by decide) lk1 (fun _ h9 => h9) rfl dX2_add_12 ?_
      refine lv_aload_n hx hb dX2_add_15 rfl (lv_at hl 0 rfl) ?_
      refine va_get (D := G.1) (ci := 2) (v := .int S0.2) (C := RX2) (T := TX2) (N := 2) hx hb hts hinX2 hown hK hP 0 rfl rfl 1 (by decide) lk0 (fun _ h9 => h9) rfl dX2_add_16 ?_
      refine lv_iload_n hx hb dX2_add_19 rfl (lv_at hl 1 rfl) ?_
      obtain ⟨hg2, hf⟩ := ob_guard hf
      refine va_iast hx hb hK hP hD hS 1 0 rfl rfl hg2 dX2_add_20 (fun H locs hP hD hS => ?_)
      have hP : va_P G.1 vwCl (ce_X2 G.2.1 a0 ((upd S0.1 (S0.2.toNatClampNeg) p1), S0.2)) H := hP
      have hD : va_D A (ce_X2 G.2.1 a0 ((upd S0.1 (S0.2.toNatClampNeg) p1), S0.2)) := hD
      refine lv_aload_n hx hb dX2_add_21 rfl (lv_at hl 0 rfl) ?_
      refine lv_dup hx hb dX2_add_22 rfl ?_
      refine va_get (D := G.1) (ci := 2) (v := .int S0.2) (C := RX2) (T := TX2) (N := 2) hx hb hts hinX2 hown hK hP 0 rfl rfl 1 (by decide) lk0 (fun _ h9 => h9) rfl dX2_add_23 ?_
      refine lv_iconst (v := 1) hx hb dX2_add_26 (by decide) ?_
      refine lv_iadd hx hb dX2_add_27 ?_
      refine va_put (D := G.1) (ci := 2) (v := .int (S0.2 + 1)) (ty := .int) (C := RX2) (T := TX2) (N := 2) hx hb hts hinX2 tyX2 tyX2_ok nmX2 hown hK hP hD hS 0 rfl rfl 1 (by decide) lk0 (fun _ h9 => h9) rfl (by decide +kernel) rfl rfl (Nat.le_of_ble_eq_true rfl) dX2_add_28 (fun H locs hP hD hS => ?_)
      have hP : va_P G.1 vwCl (ce_X2 G.2.1 a0 ((upd S0.1 (S0.2.toNatClampNeg) p1), S0.2 + 1)) H := hP
      have hD : va_D A (ce_X2 G.2.1 a0 ((upd S0.1 (S0.2.toNatClampNeg) p1), S0.2 + 1)) := hD
      refine lv_iconst (v := 1) hx hb dX2_add_31 (by decide) ?_
      exact fin _ _ _ _ _ _ hf rfl hP hD hS dX2_add_32
    · replace hf := ob_neg c1 hf
      refine lv_iconst (v := 0) hx hb dX2_add_9 (by decide) ?_
      exact fin _ _ _ _ _ _ hf rfl hP hD hS dX2_add_10
  exact go _ _ hP hD hS _ hl
abbrev rm_X2_shapeFrom : Room := { frames := 1, cells := 0, slots := 0, locals := 24 }
set_option maxHeartbeats 4000000 in
set_option maxRecDepth 100000 in
theorem c_X2_shapeFrom (l : Launch) (G : zG) (sz : Nat) (p0 : Int32) (out : Nat) (hf : f_X2_shapeFrom p0 = some out) : Met l yX2_shapeFrom wsX2_shapeFrom rm_X2_shapeFrom (PcM G (([] : va_W)) [.int p0] sz) (QSt G (([] : va_W)) out (va_A (([] : va_W)) sz)) 0 0 (va_A (([] : va_W)) sz) := by
  rw [f_X2_shapeFrom] at hf
  refine Met.ofW (cc := cX2_shapeFrom) (maxL := 1) (ret := (some (.object "java/lang/String"))) (by decide) rfl ?_
  intro p e s m args below meth c s₁ B hml hv
  obtain ⟨hargs, hsz, hP, hK, hD0, hE⟩ := hv
  have hx := B.exec
  have hb := B.bytes
  have hr := B.returns
  have hts := atoms_spec (ws := wsX2_shapeFrom) B.pre
  have hown : s.vm.findClass RX2 = some m.cls := findClass_of_methodNamed B.named
  have hlocks := B.notSynchronized
  subst hsz
  have hD := hD0.self (sz := s.heap.size)
  generalize hAe : va_A (([] : va_W)) s.heap.size = A at hD hE ⊢
  have hA : ∀ q : Nat, s.heap.size ≤ q → A q := fun q h => by rw [← hAe]; exact Or.inr h
  have hS : va_S A s.heap s.heap [] := va_S.rf
  have hl := lv_entry ([.int p0]) (n := 1) (Nat.le_of_ble_eq_true rfl)
  have hent : entryFrame m args 1 = F0 m 0 ((lg_sl ([.int p0]) ++ List.replicate (1 - (lg_sl ([.int p0])).length) Slot.unset).toArray) [] := by rw [hargs, lg_entry_eq]
  rw [hent]
  clear hent
  generalize (lg_sl ([.int p0]) ++ List.replicate (1 - (lg_sl ([.int p0])).length) Slot.unset).toArray = ls at hl ⊢
  have hl : lv_has ls 1 [(0, .int p0)] := hl
  have fin : ∀ (pc : Nat) (v : Nat) (H : Heap) (locs : List Loc) (ls : Array Slot), some v = some out → va_P G.1 vwCl (([] : va_W)) H → va_D A (([] : va_W)) → va_S A s.heap H locs → decode cX2_shapeFrom pc = .ok (.areturn, 1) → W p l e (headSpec wsX2_shapeFrom rm_X2_shapeFrom).room s m args below meth c H locs 0 0 (MQ below (QSt G (([] : va_W)) out A) args s 0 0 A) (F0 m pc ls [.ref (G.2.2.1 v)]) := fun pc v H locs ls ho hP hD hS hd => W.aret hx hb hr (Or.inl ⟨_, rfl⟩) (Or.inr ⟨_, rfl⟩) (fun t ht hW => ⟨⟨(), _, rfl, trivial, by rw [Option.some.inj ho], by first | (rw [ht]; exact hP) | (dsimp only; rw [ht]; exact hP)⟩, hS.F ht⟩) hS.2.2 hd
  generalize MQ below (QSt G (([] : va_W)) out A) args s 0 0 A = Q at fin ⊢
  have go : ∀ (H : Heap) (locs : List Loc), va_P G.1 vwCl (([] : va_W)) H → va_D A (([] : va_W)) → va_S A s.heap H locs → ∀ (ls : Array Slot), lv_has ls 1 [(0, .int p0)] → W p l e (headSpec wsX2_shapeFrom rm_X2_shapeFrom).room s m args below meth c H locs 0 0 Q (F0 m 0 ls []) := by
    intro H locs hP hD hS ls hl
    refine lv_iload_n hx hb dX2_shapeFrom_0 rfl (lv_at hl 0 rfl) ?_
    by_cases c1_0 : p0 = 101
    · replace hf := ob_pos c1_0 hf
      refine lv_lookup (x := p0) (off := 43) (tgt := 44) hx hb dX2_shapeFrom_1 (by decide) (by rw [c1_0]; decide) (by decide) ?_
      refine va_ldcS hx hb hown (hE.2.2.2.2 _ st_53) dX2_shapeFrom_44 ?_
      exact fin _ _ _ _ _ hf hP hD hS dX2_shapeFrom_46
    · replace hf := ob_neg c1_0 hf
      by_cases c1_1 : p0 = 102
      · replace hf := ob_pos c1_1 hf
        refine lv_lookup (x := p0) (off := 52) (tgt := 53) hx hb dX2_shapeFrom_1 (by decide) (by rw [c1_1]; decide) (by decide) ?_
        refine va_ldcS hx hb hown (hE.2.2.2.2 _ st_59) dX2_shapeFrom_53 ?_
        exact fin _ _ _ _ _ hf hP hD hS dX2_shapeFrom_55
      · replace hf := ob_neg c1_1 hf
        by_cases c1_2 : p0 = 106
        · replace hf := ob_pos c1_2 hf
          refine lv_lookup (x := p0) (off := 46) (tgt := 47) hx hb dX2_shapeFrom_1 (by decide) (by rw [c1_2]; decide) (by decide) ?_
          refine va_ldcS hx hb hown (hE.2.2.2.2 _ st_55) dX2_shapeFrom_47 ?_
          exact fin _ _ _ _ _ hf hP hD hS dX2_shapeFrom_49
        · replace hf := ob_neg c1_2 hf
          by_cases c1_3 : p0 = 117
          · replace hf := ob_pos c1_3 hf
            refine lv_lookup (x := p0) (off := 49) (tgt := 50) hx hb dX2_shapeFrom_1 (by decide) (by rw [c1_3]; decide) (by decide) ?_
            refine va_ldcS hx hb hown (hE.2.2.2.2 _ st_57) dX2_shapeFrom_50 ?_
            exact fin _ _ _ _ _ hf hP hD hS dX2_shapeFrom_52
          · replace hf := ob_neg c1_3 hf
            refine lv_lookup (x := p0) (off := 55) (tgt := 56) hx hb dX2_shapeFrom_1 (by decide) (by show Op.lookupswitch.offset [(101, 43), (102, 52), (106, 46), (117, 49)] _ _ = _; rw [lv_osw (a := 101) c1_0 rfl, lv_osw (a := 102) c1_1 rfl, lv_osw (a := 106) c1_2 rfl, lv_osw (a := 117) c1_3 rfl]; rfl) (by decide) ?_
            refine va_ldcS hx hb hown (hE.2.2.2.2 _ st_61) dX2_shapeFrom_56 ?_
            exact fin _ _ _ _ _ hf hP hD hS dX2_shapeFrom_58
  exact go _ _ hP hD hS _ hl
abbrev rm_J0_isEmpty_aae02 : Room := { frames := 1, cells := 0, slots := 0, locals := 24 }
set_option maxHeartbeats 4000000 in
set_option maxRecDepth 100000 in
theorem c_J0_isEmpty_aae02 (l : Launch) (G : zG) (sz : Nat) (p0 : Nat) (out : Int32) (hf : f_J0_isEmpty_aae02 p0 = some out) : Met l yJ0_isEmpty_aae02 wsJ0_isEmpty_aae02 rm_J0_isEmpty_aae02 (PcM G (([] : va_W)) [.ref (G.2.2.1 p0)] sz) (QRo G (([] : va_W)) out (va_A (([] : va_W)) sz)) 0 0 (va_A (([] : va_W)) sz) := by
  rw [f_J0_isEmpty_aae02] at hf
  refine Met.ofW (cc := cJ0_isEmpty_aae02) (maxL := 1) (ret := (some .boolean)) (by decide) rfl ?_
  intro p e s m args below meth c s₁ B hml hv
  obtain ⟨hargs, hsz, hP, hK, hD0, hE⟩ := hv
  have hx := B.exec
  have hb := B.bytes
  have hr := B.returns
  have hts := atoms_spec (ws := wsJ0_isEmpty_aae02) B.pre
  have hown : s.vm.findClass RJ0 = some m.cls := findClass_of_methodNamed B.named
  have hlocks := B.notSynchronized
  subst hsz
  have hD := hD0.self (sz := s.heap.size)
  generalize hAe : va_A (([] : va_W)) s.heap.size = A at hD hE ⊢
  have hA : ∀ q : Nat, s.heap.size ≤ q → A q := fun q h => by rw [← hAe]; exact Or.inr h
  have hS : va_S A s.heap s.heap [] := va_S.rf
  have hl := lv_entry ([.ref (G.2.2.1 p0)]) (n := 1) (Nat.le_of_ble_eq_true rfl)
  have hent : entryFrame m args 1 = F0 m 0 ((lg_sl ([.ref (G.2.2.1 p0)]) ++ List.replicate (1 - (lg_sl ([.ref (G.2.2.1 p0)])).length) Slot.unset).toArray) [] := by rw [hargs, lg_entry_eq]
  rw [hent]
  clear hent
  generalize (lg_sl ([.ref (G.2.2.1 p0)]) ++ List.replicate (1 - (lg_sl ([.ref (G.2.2.1 p0)])).length) Slot.unset).toArray = ls at hl ⊢
  have hl : lv_has ls 1 [(0, .ref (G.2.2.1 p0))] := hl
  have lk0 := hts (Cond.fieldLink RJ0 9 "java/lang/String" "value" "[B") (List.mem_of_getElem? (i := 1) rfl)
  have fin : ∀ (pc : Nat) (v : Int32) (H : Heap) (locs : List Loc) (ls : Array Slot), some v = some out → narrow .boolean (.int v) = .int v → va_P G.1 vwCl (([] : va_W)) H → va_D A (([] : va_W)) → va_S A s.heap H locs → decode cJ0_isEmpty_aae02 pc = .ok (.ireturn, 1) → W p l e (headSpec wsJ0_isEmpty_aae02 rm_J0_isEmpty_aae02).room s m args below meth c H locs 0 0 (MQ below (QRo G (([] : va_W)) out A) args s 0 0 A) (F0 m pc ls [.int v]) := fun pc v H locs ls ho hn hP hD hS hd => W.zret (v := v) hx hb hr hn (fun t ht hW => ⟨⟨v, (), rfl, Option.some.inj ho, by first | (rw [ht]; exact hP) | (dsimp only; rw [ht]; exact hP)⟩, hS.F ht⟩) hS.2.2 hd
  generalize MQ below (QRo G (([] : va_W)) out A) args s 0 0 A = Q at fin ⊢
  obtain ⟨hi_p0, hf⟩ := ob_guard hf
  have go : ∀ (H : Heap) (locs : List Loc), va_P G.1 vwCl (([] : va_W)) H → va_D A (([] : va_W)) → va_S A s.heap H locs → ∀ (ls : Array Slot), lv_has ls 1 [(0, .ref (G.2.2.1 p0))] → W p l e (headSpec wsJ0_isEmpty_aae02 rm_J0_isEmpty_aae02).room s m args below meth c H locs 0 0 Q (F0 m 0 ls []) := by
    intro H locs hP hD hS ls hl
    refine lv_aload_n hx hb dJ0_isEmpty_aae02_0 rfl (lv_at hl 0 rfl) ?_
    refine vk_getf hx hb ((hE.2.1.1 _ hi_p0).2.2.1) hS hown lk0 (fun _ h9 => h9) dJ0_isEmpty_aae02_1 ?_
    refine va_tlen hx hb ((hE.2.1.1 _ hi_p0).2.2.2) hS (v := Int32.ofNat (lenS.getD p0 0)) rfl dJ0_isEmpty_aae02_4 ?_
    refine lv_if_ne (tgt := 12) hx hb dJ0_isEmpty_aae02_5 (by decide) (fun c1 => ?_) (fun c1 => ?_)
    · replace hf := ob_neg c1 hf
      refine lv_iconst (v := 0) hx hb dJ0_isEmpty_aae02_12 (by decide) ?_
      exact fin _ _ _ _ _ hf rfl hP hD hS dJ0_isEmpty_aae02_13
    · replace hf := ob_pos c1 hf
      refine lv_iconst (v := 1) hx hb dJ0_isEmpty_aae02_8 (by decide) ?_
      refine lv_goto (tgt := 13) hx hb dJ0_isEmpty_aae02_9 (by decide) ?_
      exact fin _ _ _ _ _ hf rfl hP hD hS dJ0_isEmpty_aae02_13
  exact go _ _ hP hD hS _ hl
abbrev rm_J3_checkIndex_8e157 : Room := { frames := 1, cells := 0, slots := 0, locals := 24 }
set_option maxHeartbeats 4000000 in
set_option maxRecDepth 100000 in
theorem c_J3_checkIndex_8e157 (l : Launch) (G : zG) (sz : Nat) (p0 : Int32) (p1 : Int32) (p2 : Nat) (out : Int32) (hf : f_J3_checkIndex_8e157 p0 p1 = some out) : Met l yJ3_checkIndex_8e157 wsJ3_checkIndex_8e157 rm_J3_checkIndex_8e157 (PcM G (([] : va_W)) [.int p0, .int p1, .ref p2] sz) (QRo G (([] : va_W)) out (va_A (([] : va_W)) sz)) 0 0 (va_A (([] : va_W)) sz) := by
  rw [f_J3_checkIndex_8e157] at hf
  refine Met.ofW (cc := cJ3_checkIndex_8e157) (maxL := 3) (ret := (some .int)) (by decide) rfl ?_
  intro p e s m args below meth c s₁ B hml hv
  obtain ⟨hargs, hsz, hP, hK, hD0, hE⟩ := hv
  have hx := B.exec
  have hb := B.bytes
  have hr := B.returns
  have hts := atoms_spec (ws := wsJ3_checkIndex_8e157) B.pre
  have hown : s.vm.findClass RJ3 = some m.cls := findClass_of_methodNamed B.named
  have hlocks := B.notSynchronized
  subst hsz
  have hD := hD0.self (sz := s.heap.size)
  generalize hAe : va_A (([] : va_W)) s.heap.size = A at hD hE ⊢
  have hA : ∀ q : Nat, s.heap.size ≤ q → A q := fun q h => by rw [← hAe]; exact Or.inr h
  have hS : va_S A s.heap s.heap [] := va_S.rf
  have hl := lv_entry ([.int p0, .int p1, .ref p2]) (n := 3) (Nat.le_of_ble_eq_true rfl)
  have hent : entryFrame m args 3 = F0 m 0 ((lg_sl ([.int p0, .int p1, .ref p2]) ++ List.replicate (3 - (lg_sl ([.int p0, .int p1, .ref p2])).length) Slot.unset).toArray) [] := by rw [hargs, lg_entry_eq]
  rw [hent]
  clear hent
  generalize (lg_sl ([.int p0, .int p1, .ref p2]) ++ List.replicate (3 - (lg_sl ([.int p0, .int p1, .ref p2])).length) Slot.unset).toArray = ls at hl ⊢
  have hl : lv_has ls 3 [(0, .int p0), (1, .int p1), (2, .ref p2)] := hl
  have fin : ∀ (pc : Nat) (v : Int32) (H : Heap) (locs : List Loc) (ls : Array Slot), some v = some out → va_P G.1 vwCl (([] : va_W)) H → va_D A (([] : va_W)) → va_S A s.heap H locs → decode cJ3_checkIndex_8e157 pc = .ok (.ireturn, 1) → W p l e (headSpec wsJ3_checkIndex_8e157 rm_J3_checkIndex_8e157).room s m args below meth c H locs 0 0 (MQ below (QRo G (([] : va_W)) out A) args s 0 0 A) (F0 m pc ls [.int v]) := fun pc v H locs ls ho hP hD hS hd => W.iret (v := v) hx hb hr (fun t ht hW => ⟨⟨v, (), rfl, Option.some.inj ho, by first | (rw [ht]; exact hP) | (dsimp only; rw [ht]; exact hP)⟩, hS.F ht⟩) hS.2.2 hd
  generalize MQ below (QRo G (([] : va_W)) out A) args s 0 0 A = Q at fin ⊢
  have blk9 : ∀ (v0 : Int32) (v1 : Int32), f_J3_checkIndex_8e157_b9 v0 v1 = some out → ∀ (H : Heap) (locs : List Loc), va_P G.1 vwCl (([] : va_W)) H → va_D A (([] : va_W)) → va_S A s.heap H locs → ∀ (ls : Array Slot), lv_has ls 3 [(0, .int v0), (1, .int v1), (2, .ref p2)] → W p l e (headSpec wsJ3_checkIndex_8e157 rm_J3_checkIndex_8e157).room s m args below meth c H locs 0 0 Q (F0 m 9 ls []) := by
    intro v0 v1 hf H locs hP hD hS ls hl
    rw [f_J3_checkIndex_8e157_b9] at hf
    refine lv_aload_n hx hb dJ3_checkIndex_8e157_9 rfl (lv_at hl 2 rfl) ?_
    refine lv_iload_n hx hb dJ3_checkIndex_8e157_10 rfl (lv_at hl 0 rfl) ?_
    refine lv_iload_n hx hb dJ3_checkIndex_8e157_11 rfl (lv_at hl 1 rfl) ?_
    exact ob_none hf
  have go : ∀ (H : Heap) (locs : List Loc), va_P G.1 vwCl (([] : va_W)) H → va_D A (([] : va_W)) → va_S A s.heap H locs → ∀ (ls : Array Slot), lv_has ls 3 [(0, .int p0), (1, .int p1), (2, .ref p2)] → W p l e (headSpec wsJ3_checkIndex_8e157 rm_J3_checkIndex_8e157).room s m args below meth c H locs 0 0 Q (F0 m 0 ls []) := by
    intro H locs hP hD hS ls hl
    refine lv_iload_n hx hb dJ3_checkIndex_8e157_0 rfl (lv_at hl 0 rfl) ?_
    refine lv_if_lt (tgt := 9) hx hb dJ3_checkIndex_8e157_1 (by decide) (fun c1 => ?_) (fun c1 => ?_)
    · replace hf := ob_pos c1 hf
      exact blk9 _ _ hf _ _ hP hD hS _ (lv_sub hl [0, 1, 2] rfl)
    · replace hf := ob_neg c1 hf
      refine lv_iload_n hx hb dJ3_checkIndex_8e157_4 rfl (lv_at hl 0 rfl) ?_
      refine lv_iload_n hx hb dJ3_checkIndex_8e157_5 rfl (lv_at hl 1 rfl) ?_
      refine lv_icmp_lt (tgt := 16) hx hb dJ3_checkIndex_8e157_6 (by decide) (fun c2 => ?_) (fun c2 => ?_)
      · replace hf := ob_pos c2 hf
        refine lv_iload_n hx hb dJ3_checkIndex_8e157_16 rfl (lv_at hl 0 rfl) ?_
        exact fin _ _ _ _ _ hf hP hD hS dJ3_checkIndex_8e157_17
      · replace hf := ob_neg c2 hf
        exact blk9 _ _ hf _ _ hP hD hS _ (lv_sub hl [0, 1, 2] rfl)
  exact go _ _ hP hD hS _ hl
set_option maxHeartbeats 4000000 in
set_option maxRecDepth 100000 in
theorem c_J3_checkIndex_8e157_n (l : Launch) (G : zG) (sz : Nat) (p0 : Int32) (p1 : Int32) (out : Int32) (hf : f_J3_checkIndex_8e157 p0 p1 = some out) : Met l yJ3_checkIndex_8e157 wsJ3_checkIndex_8e157 rm_J3_checkIndex_8e157 (PcM G (([] : va_W)) [.int p0, .int p1, .null] sz) (QRo G (([] : va_W)) out (va_A (([] : va_W)) sz)) 0 0 (va_A (([] : va_W)) sz) := by
  rw [f_J3_checkIndex_8e157] at hf
  refine Met.ofW (cc := cJ3_checkIndex_8e157) (maxL := 3) (ret := (some .int)) (by decide) rfl ?_
  intro p e s m args below meth c s₁ B hml hv
  obtain ⟨hargs, hsz, hP, hK, hD0, hE⟩ := hv
  have hx := B.exec
  have hb := B.bytes
  have hr := B.returns
  have hts := atoms_spec (ws := wsJ3_checkIndex_8e157) B.pre
  have hown : s.vm.findClass RJ3 = some m.cls := findClass_of_methodNamed B.named
  have hlocks := B.notSynchronized
  subst hsz
  have hD := hD0.self (sz := s.heap.size)
  generalize hAe : va_A (([] : va_W)) s.heap.size = A at hD hE ⊢
  have hA : ∀ q : Nat, s.heap.size ≤ q → A q := fun q h => by rw [← hAe]; exact Or.inr h
  have hS : va_S A s.heap s.heap [] := va_S.rf
  have hl := lv_entry ([.int p0, .int p1, .null]) (n := 3) (Nat.le_of_ble_eq_true rfl)
  have hent : entryFrame m args 3 = F0 m 0 ((lg_sl ([.int p0, .int p1, .null]) ++ List.replicate (3 - (lg_sl ([.int p0, .int p1, .null])).length) Slot.unset).toArray) [] := by rw [hargs, lg_entry_eq]
  rw [hent]
  clear hent
  generalize (lg_sl ([.int p0, .int p1, .null]) ++ List.replicate (3 - (lg_sl ([.int p0, .int p1, .null])).length) Slot.unset).toArray = ls at hl ⊢
  have hl : lv_has ls 3 [(0, .int p0), (1, .int p1), (2, .null)] := hl
  have fin : ∀ (pc : Nat) (v : Int32) (H : Heap) (locs : List Loc) (ls : Array Slot), some v = some out → va_P G.1 vwCl (([] : va_W)) H → va_D A (([] : va_W)) → va_S A s.heap H locs → decode cJ3_checkIndex_8e157 pc = .ok (.ireturn, 1) → W p l e (headSpec wsJ3_checkIndex_8e157 rm_J3_checkIndex_8e157).room s m args below meth c H locs 0 0 (MQ below (QRo G (([] : va_W)) out A) args s 0 0 A) (F0 m pc ls [.int v]) := fun pc v H locs ls ho hP hD hS hd => W.iret (v := v) hx hb hr (fun t ht hW => ⟨⟨v, (), rfl, Option.some.inj ho, by first | (rw [ht]; exact hP) | (dsimp only; rw [ht]; exact hP)⟩, hS.F ht⟩) hS.2.2 hd
  generalize MQ below (QRo G (([] : va_W)) out A) args s 0 0 A = Q at fin ⊢
  have blk9 : ∀ (v0 : Int32) (v1 : Int32), f_J3_checkIndex_8e157_b9 v0 v1 = some out → ∀ (H : Heap) (locs : List Loc), va_P G.1 vwCl (([] : va_W)) H → va_D A (([] : va_W)) → va_S A s.heap H locs → ∀ (ls : Array Slot), lv_has ls 3 [(0, .int v0), (1, .int v1), (2, .null)] → W p l e (headSpec wsJ3_checkIndex_8e157 rm_J3_checkIndex_8e157).room s m args below meth c H locs 0 0 Q (F0 m 9 ls []) := by
    intro v0 v1 hf H locs hP hD hS ls hl
    rw [f_J3_checkIndex_8e157_b9] at hf
    refine lv_aload_nN hx hb dJ3_checkIndex_8e157_9 rfl (lv_at hl 2 rfl) ?_
    refine lv_iload_n hx hb dJ3_checkIndex_8e157_10 rfl (lv_at hl 0 rfl) ?_
    refine lv_iload_n hx hb dJ3_checkIndex_8e157_11 rfl (lv_at hl 1 rfl) ?_
    exact ob_none hf
  have go : ∀ (H : Heap) (locs : List Loc), va_P G.1 vwCl (([] : va_W)) H → va_D A (([] : va_W)) → va_S A s.heap H locs → ∀ (ls : Array Slot), lv_has ls 3 [(0, .int p0), (1, .int p1), (2, .null)] → W p l e (headSpec wsJ3_checkIndex_8e157 rm_J3_checkIndex_8e157).room s m args below meth c H locs 0 0 Q (F0 m 0 ls []) := by
    intro H locs hP hD hS ls hl
    refine lv_iload_n hx hb dJ3_checkIndex_8e157_0 rfl (lv_at hl 0 rfl) ?_
    refine lv_if_lt (tgt := 9) hx hb dJ3_checkIndex_8e157_1 (by decide) (fun c1 => ?_) (fun c1 => ?_)
    · replace hf := ob_pos c1 hf
      exact blk9 _ _ hf _ _ hP hD hS _ (lv_sub hl [0, 1, 2] rfl)
    · replace hf := ob_neg c1 hf
      refine lv_iload_n hx hb dJ3_checkIndex_8e157_4 rfl (lv_at hl 0 rfl) ?_
      refine lv_iload_n hx hb dJ3_checkIndex_8e157_5 rfl (lv_at hl 1 rfl) ?_
      refine lv_icmp_lt (tgt := 16) hx hb dJ3_checkIndex_8e157_6 (by decide) (fun c2 => ?_) (fun c2 => ?_)
      · replace hf := ob_pos c2 hf
        refine lv_iload_n hx hb dJ3_checkIndex_8e157_16 rfl (lv_at hl 0 rfl) ?_
        exact fin _ _ _ _ _ hf hP hD hS dJ3_checkIndex_8e157_17
      · replace hf := ob_neg c2 hf
        exact blk9 _ _ hf _ _ hP hD hS _ (lv_sub hl [0, 1, 2] rfl)
  exact go _ _ hP hD hS _ hl
abbrev rm_J0_checkIndex_df160 : Room := { frames := 2, cells := 0, slots := 0, locals := 46 }
set_option maxHeartbeats 4000000 in
set_option maxRecDepth 100000 in
theorem c_J0_checkIndex_df160 (l : Launch) (G : zG) (sz : Nat) (p0 : Int32) (p1 : Int32) (out : Unit) (hf : f_J0_checkIndex_df160 p0 p1 = some out) : Met l yJ0_checkIndex_df160 wsJ0_checkIndex_df160 rm_J0_checkIndex_df160 (PcM G (([] : va_W)) [.int p0, .int p1] sz) (QRv G (([] : va_W)) (va_A (([] : va_W)) sz)) 0 0 (va_A (([] : va_W)) sz) := by
  rw [f_J0_checkIndex_df160] at hf
  refine Met.ofW (cc := cJ0_checkIndex_df160) (maxL := 2) (ret := none) (by decide) rfl ?_
  intro p e s m args below meth c s₁ B hml hv
  obtain ⟨hargs, hsz, hP, hK, hD0, hE⟩ := hv
  have hx := B.exec
  have hb := B.bytes
  have hr := B.returns
  have hts := atoms_spec (ws := wsJ0_checkIndex_df160) B.pre
  have hown : s.vm.findClass RJ0 = some m.cls := findClass_of_methodNamed B.named
  have hlocks := B.notSynchronized
  subst hsz
  have hD := hD0.self (sz := s.heap.size)
  generalize hAe : va_A (([] : va_W)) s.heap.size = A at hD hE ⊢
  have hA : ∀ q : Nat, s.heap.size ≤ q → A q := fun q h => by rw [← hAe]; exact Or.inr h
  have hS : va_S A s.heap s.heap [] := va_S.rf
  have hl := lv_entry ([.int p0, .int p1]) (n := 2) (Nat.le_of_ble_eq_true rfl)
  have hent : entryFrame m args 2 = F0 m 0 ((lg_sl ([.int p0, .int p1]) ++ List.replicate (2 - (lg_sl ([.int p0, .int p1])).length) Slot.unset).toArray) [] := by rw [hargs, lg_entry_eq]
  rw [hent]
  clear hent
  generalize (lg_sl ([.int p0, .int p1]) ++ List.replicate (2 - (lg_sl ([.int p0, .int p1])).length) Slot.unset).toArray = ls at hl ⊢
  have hl : lv_has ls 2 [(0, .int p0), (1, .int p1)] := hl
  have lk0 := hts (Cond.fieldLink RJ0 1053 "jdk/internal/util/Preconditions" "SIOOBE_FORMATTER" "Ljava/util/function/BiFunction;") (List.mem_of_getElem? (i := 1) rfl)
  have fin : ∀ (pc : Nat) (H : Heap) (locs : List Loc) (ls : Array Slot), some () = some out → va_P G.1 vwCl (([] : va_W)) H → va_D A (([] : va_W)) → va_S A s.heap H locs → decode cJ0_checkIndex_df160 pc = .ok (.return_, 1) → W p l e (headSpec wsJ0_checkIndex_df160 rm_J0_checkIndex_df160).room s m args below meth c H locs 0 0 (MQ below (QRv G (([] : va_W)) A) args s 0 0 A) (F0 m pc ls []) := fun pc H locs ls ho hP hD hS hd => W.vret hx hb hr (fun t ht hW => ⟨⟨(), rfl, trivial, by first | (rw [ht]; exact hP) | (dsimp only; rw [ht]; exact hP)⟩, hS.F ht⟩) hS.2.2 hd
  generalize MQ below (QRv G (([] : va_W)) A) args s 0 0 A = Q at fin ⊢
  have go : ∀ (H : Heap) (locs : List Loc), va_P G.1 vwCl (([] : va_W)) H → va_D A (([] : va_W)) → va_S A s.heap H locs → ∀ (ls : Array Slot), lv_has ls 2 [(0, .int p0), (1, .int p1)] → W p l e (headSpec wsJ0_checkIndex_df160 rm_J0_checkIndex_df160).room s m args below meth c H locs 0 0 Q (F0 m 0 ls []) := by
    intro H locs hP hD hS ls hl
    refine lv_iload_n hx hb dJ0_checkIndex_df160_0 rfl (lv_at hl 0 rfl) ?_
    refine lv_iload_n hx hb dJ0_checkIndex_df160_1 rfl (lv_at hl 1 rfl) ?_
    rcases hE.2.2.2.1 with hz | ⟨tz, hz⟩
    · refine va_gets hx hb hz hS hown lk0 (fun _ h9 => h9) dJ0_checkIndex_df160_2 ?_
      obtain ⟨r1, hr1, hf⟩ := ob_bind hf
      have hFc := va_free (wc := ([] : va_W)) hD hS hA [] rfl
      refine zc_ro (va_runS (As := [.int p0, .int p1, .null]) (rest := []) ⟨hx, hb, hml, hown, hts⟩ (c_J3_checkIndex_8e157_n l G H.size p0 p1 _ hr1) (va_cwS 3 hts gJ0_checkIndex_df160_J3_checkIndex_8e157 rfl rfl rfl (by decide +kernel) ⟨Nat.le_of_ble_eq_true rfl, Nat.le_of_ble_eq_true rfl⟩) ⟨PcM.blind, PcM.ok hP hD hK hE hS hFc⟩ rfl rfl hl.1 rfl (lv_room (Nat.le_of_ble_eq_true rfl)) dJ0_checkIndex_df160_5 ⟨Nat.le_refl _, Nat.le_refl _⟩) hP hD hS hA [] rfl (fun H locs hP hS => ?_)
      refine lv_pop hx hb dJ0_checkIndex_df160_8 rfl ?_
      exact fin _ _ _ _ hf hP hD hS dJ0_checkIndex_df160_9
    · refine va_gets hx hb hz hS hown lk0 (fun _ h9 => h9) dJ0_checkIndex_df160_2 ?_
      obtain ⟨r2, hr2, hf⟩ := ob_bind hf
      have hFc := va_free (wc := ([] : va_W)) hD hS hA [] rfl
      refine zc_ro (va_runS (As := [.int p0, .int p1, .ref tz]) (rest := []) ⟨hx, hb, hml, hown, hts⟩ (c_J3_checkIndex_8e157 l G H.size p0 p1 tz _ hr2) (va_cwS 3 hts gJ0_checkIndex_df160_J3_checkIndex_8e157 rfl rfl rfl (by decide +kernel) ⟨Nat.le_of_ble_eq_true rfl, Nat.le_of_ble_eq_true rfl⟩) ⟨PcM.blind, PcM.ok hP hD hK hE hS hFc⟩ rfl rfl hl.1 rfl (lv_room (Nat.le_of_ble_eq_true rfl)) dJ0_checkIndex_df160_5 ⟨Nat.le_refl _, Nat.le_refl _⟩) hP hD hS hA [] rfl (fun H locs hP hS => ?_)
      refine lv_pop hx hb dJ0_checkIndex_df160_8 rfl ?_
      exact fin _ _ _ _ hf hP hD hS dJ0_checkIndex_df160_9
  exact go _ _ hP hD hS _ hl
abbrev rm_J1_charAt_3b067 : Room := { frames := 3, cells := 0, slots := 0, locals := 67 }
set_option maxHeartbeats 4000000 in
set_option maxRecDepth 100000 in
theorem c_J1_charAt_3b067 (l : Launch) (G : zG) (sz : Nat) (p0 : Nat) (p1 : Int32) (out : Int32) (hf : f_J1_charAt_3b067 p0 p1 = some out) : Met l yJ1_charAt_3b067 wsJ1_charAt_3b067 rm_J1_charAt_3b067 (PcM G (([] : va_W)) [.ref (G.2.2.2 p0), .int p1] sz) (QRo G (([] : va_W)) out (va_A (([] : va_W)) sz)) 0 0 (va_A (([] : va_W)) sz) := by
  rw [f_J1_charAt_3b067] at hf
  refine Met.ofW (cc := cJ1_charAt_3b067) (maxL := 2) (ret := (some .char)) (by decide) rfl ?_
  intro p e s m args below meth c s₁ B hml hv
  obtain ⟨hargs, hsz, hP, hK, hD0, hE⟩ := hv
  have hx := B.exec
  have hb := B.bytes
  have hr := B.returns
  have hts := atoms_spec (ws := wsJ1_charAt_3b067) B.pre
  have hown : s.vm.findClass RJ1 = some m.cls := findClass_of_methodNamed B.named
  have hlocks := B.notSynchronized
  subst hsz
  have hD := hD0.self (sz := s.heap.size)
  generalize hAe : va_A (([] : va_W)) s.heap.size = A at hD hE ⊢
  have hA : ∀ q : Nat, s.heap.size ≤ q → A q := fun q h => by rw [← hAe]; exact Or.inr h
  have hS : va_S A s.heap s.heap [] := va_S.rf
  have hl := lv_entry ([.ref (G.2.2.2 p0), .int p1]) (n := 2) (Nat.le_of_ble_eq_true rfl)
  have hent : entryFrame m args 2 = F0 m 0 ((lg_sl ([.ref (G.2.2.2 p0), .int p1]) ++ List.replicate (2 - (lg_sl ([.ref (G.2.2.2 p0), .int p1])).length) Slot.unset).toArray) [] := by rw [hargs, lg_entry_eq]
  rw [hent]
  clear hent
  generalize (lg_sl ([.ref (G.2.2.2 p0), .int p1]) ++ List.replicate (2 - (lg_sl ([.ref (G.2.2.2 p0), .int p1])).length) Slot.unset).toArray = ls at hl ⊢
  have hl : lv_has ls 2 [(0, .ref (G.2.2.2 p0)), (1, .int p1)] := hl
  have fin : ∀ (pc : Nat) (v : Int32) (H : Heap) (locs : List Loc) (ls : Array Slot), some v = some out → narrow .char (.int v) = .int v → va_P G.1 vwCl (([] : va_W)) H → va_D A (([] : va_W)) → va_S A s.heap H locs → decode cJ1_charAt_3b067 pc = .ok (.ireturn, 1) → W p l e (headSpec wsJ1_charAt_3b067 rm_J1_charAt_3b067).room s m args below meth c H locs 0 0 (MQ below (QRo G (([] : va_W)) out A) args s 0 0 A) (F0 m pc ls [.int v]) := fun pc v H locs ls ho hn hP hD hS hd => W.zret (v := v) hx hb hr hn (fun t ht hW => ⟨⟨v, (), rfl, Option.some.inj ho, by first | (rw [ht]; exact hP) | (dsimp only; rw [ht]; exact hP)⟩, hS.F ht⟩) hS.2.2 hd
  generalize MQ below (QRo G (([] : va_W)) out A) args s 0 0 A = Q at fin ⊢
  obtain ⟨hi_p0, hf⟩ := ob_guard hf
  have go : ∀ (H : Heap) (locs : List Loc), va_P G.1 vwCl (([] : va_W)) H → va_D A (([] : va_W)) → va_S A s.heap H locs → ∀ (ls : Array Slot), lv_has ls 2 [(0, .ref (G.2.2.2 p0)), (1, .int p1)] → W p l e (headSpec wsJ1_charAt_3b067 rm_J1_charAt_3b067).room s m args below meth c H locs 0 0 Q (F0 m 0 ls []) := by
    intro H locs hP hD hS ls hl
    refine lv_iload_n hx hb dJ1_charAt_3b067_0 rfl (lv_at hl 1 rfl) ?_
    refine lv_aload_n hx hb dJ1_charAt_3b067_1 rfl (lv_at hl 0 rfl) ?_
    refine va_tlen hx hb ((hE.2.1.1 _ hi_p0).2.2.2) hS (v := Int32.ofNat (lenS.getD p0 0)) rfl dJ1_charAt_3b067_2 ?_
    obtain ⟨r1, hr1, hf⟩ := ob_bind hf
    have hFc := va_free (wc := ([] : va_W)) hD hS hA [] rfl
    refine zc_rov (va_runS (As := [.int p1, .int (Int32.ofNat (lenS.getD p0 0))]) (rest := []) ⟨hx, hb, hml, hown, hts⟩ (c_J0_checkIndex_df160 l G H.size p1 (Int32.ofNat (lenS.getD p0 0)) _ hr1) (va_cwS 2 hts gJ1_charAt_3b067_J0_checkIndex_df160 rfl rfl rfl (by decide +kernel) ⟨Nat.le_of_ble_eq_true rfl, Nat.le_of_ble_eq_true rfl⟩) ⟨PcM.blind, PcM.ok hP hD hK hE hS hFc⟩ rfl rfl hl.1 rfl (lv_room (Nat.le_of_ble_eq_true rfl)) dJ1_charAt_3b067_3 ⟨Nat.le_refl _, Nat.le_refl _⟩) hP hD hS hA [] rfl (fun H locs hP hS => ?_)
    refine lv_aload_n hx hb dJ1_charAt_3b067_6 rfl (lv_at hl 0 rfl) ?_
    refine lv_iload_n hx hb dJ1_charAt_3b067_7 rfl (lv_at hl 1 rfl) ?_
    obtain ⟨hg2, hf⟩ := ob_guard hf
    refine va_tb hx hb ((hE.2.1.1 _ hi_p0).2.2.2) hS hg2 (v := .int ((bytS.getD p0 []).getD (p1).toNatClampNeg 0)) rfl dJ1_charAt_3b067_8 ?_
    refine lv_sipush (v := 255) hx hb dJ1_charAt_3b067_9 (by decide) ?_
    refine lv_iand hx hb dJ1_charAt_3b067_12 ?_
    refine lv_i2c hx hb dJ1_charAt_3b067_13 rfl ?_
    obtain ⟨hg3, hf⟩ := ob_guard hf
    exact fin _ _ _ _ _ hf (congrArg Value.int hg3) hP hD hS dJ1_charAt_3b067_14
  exact go _ _ hP hD hS _ hl
abbrev rm_J0_charAt_5068e : Room := { frames := 4, cells := 0, slots := 0, locals := 88 }
set_option maxHeartbeats 4000000 in
set_option maxRecDepth 100000 in
theorem c_J0_charAt_5068e (l : Launch) (G : zG) (sz : Nat) (p0 : Nat) (p1 : Int32) (out : Int32) (hf : f_J0_charAt_5068e p0 p1 = some out) : Met l yJ0_charAt_5068e wsJ0_charAt_5068e rm_J0_charAt_5068e (PcM G (([] : va_W)) [.ref (G.2.2.1 p0), .int p1] sz) (QRo G (([] : va_W)) out (va_A (([] : va_W)) sz)) 0 0 (va_A (([] : va_W)) sz) := by
  rw [f_J0_charAt_5068e] at hf
  refine Met.ofW (cc := cJ0_charAt_5068e) (maxL := 2) (ret := (some .char)) (by decide) rfl ?_
  intro p e s m args below meth c s₁ B hml hv
  obtain ⟨hargs, hsz, hP, hK, hD0, hE⟩ := hv
  have hx := B.exec
  have hb := B.bytes
  have hr := B.returns
  have hts := atoms_spec (ws := wsJ0_charAt_5068e) B.pre
  have hown : s.vm.findClass RJ0 = some m.cls := findClass_of_methodNamed B.named
  have hlocks := B.notSynchronized
  subst hsz
  have hD := hD0.self (sz := s.heap.size)
  generalize hAe : va_A (([] : va_W)) s.heap.size = A at hD hE ⊢
  have hA : ∀ q : Nat, s.heap.size ≤ q → A q := fun q h => by rw [← hAe]; exact Or.inr h
  have hS : va_S A s.heap s.heap [] := va_S.rf
  have hl := lv_entry ([.ref (G.2.2.1 p0), .int p1]) (n := 2) (Nat.le_of_ble_eq_true rfl)
  have hent : entryFrame m args 2 = F0 m 0 ((lg_sl ([.ref (G.2.2.1 p0), .int p1]) ++ List.replicate (2 - (lg_sl ([.ref (G.2.2.1 p0), .int p1])).length) Slot.unset).toArray) [] := by rw [hargs, lg_entry_eq]
  rw [hent]
  clear hent
  generalize (lg_sl ([.ref (G.2.2.1 p0), .int p1]) ++ List.replicate (2 - (lg_sl ([.ref (G.2.2.1 p0), .int p1])).length) Slot.unset).toArray = ls at hl ⊢
  have hl : lv_has ls 2 [(0, .ref (G.2.2.1 p0)), (1, .int p1)] := hl
  have lk0 := hts (Cond.fieldLink RJ0 9 "java/lang/String" "value" "[B") (List.mem_of_getElem? (i := 1) rfl)
  have fin : ∀ (pc : Nat) (v : Int32) (H : Heap) (locs : List Loc) (ls : Array Slot), some v = some out → narrow .char (.int v) = .int v → va_P G.1 vwCl (([] : va_W)) H → va_D A (([] : va_W)) → va_S A s.heap H locs → decode cJ0_charAt_5068e pc = .ok (.ireturn, 1) → W p l e (headSpec wsJ0_charAt_5068e rm_J0_charAt_5068e).room s m args below meth c H locs 0 0 (MQ below (QRo G (([] : va_W)) out A) args s 0 0 A) (F0 m pc ls [.int v]) := fun pc v H locs ls ho hn hP hD hS hd => W.zret (v := v) hx hb hr hn (fun t ht hW => ⟨⟨v, (), rfl, Option.some.inj ho, by first | (rw [ht]; exact hP) | (dsimp only; rw [ht]; exact hP)⟩, hS.F ht⟩) hS.2.2 hd
  generalize MQ below (QRo G (([] : va_W)) out A) args s 0 0 A = Q at fin ⊢
  obtain ⟨hi_p0, hf⟩ := ob_guard hf
  have go : ∀ (H : Heap) (locs : List Loc), va_P G.1 vwCl (([] : va_W)) H → va_D A (([] : va_W)) → va_S A s.heap H locs → ∀ (ls : Array Slot), lv_has ls 2 [(0, .ref (G.2.2.1 p0)), (1, .int p1)] → W p l e (headSpec wsJ0_charAt_5068e rm_J0_charAt_5068e).room s m args below meth c H locs 0 0 Q (F0 m 0 ls []) := by
    intro H locs hP hD hS ls hl
    refine lv_aload_n hx hb dJ0_charAt_5068e_0 rfl (lv_at hl 0 rfl) ?_
    obtain ⟨r1, hr1, hf⟩ := ob_bind hf
    have hFc := va_free (wc := ([] : va_W)) hD hS hA [] rfl
    refine zc_ro (va_runV (As := []) (rest := []) ⟨hx, hb, hml, hown, hts⟩ (c_J0_isLatin1_aae02 l G H.size p0 _ hr1) (cwV 0 hts gJ0_charAt_5068e_J0_isLatin1_aae02 rfl rfl rfl (by decide +kernel) ⟨Nat.le_of_ble_eq_true rfl, Nat.le_of_ble_eq_true rfl⟩) ⟨PcM.blind, vk_recv hE.2.1 hi_p0 hS, PcM.ok hP hD hK hE hS hFc⟩ rfl rfl hl.1 rfl (lv_room (Nat.le_of_ble_eq_true rfl)) dJ0_charAt_5068e_1 ⟨Nat.le_refl _, Nat.le_refl _⟩) hP hD hS hA [] rfl (fun H locs hP hS => ?_)
    refine lv_if_eq (tgt := 16) hx hb dJ0_charAt_5068e_4 (by decide) (fun c2 => ?_) (fun c2 => ?_)
    · replace hf := ob_pos c2 hf
      refine lv_aload_n hx hb dJ0_charAt_5068e_16 rfl (lv_at hl 0 rfl) ?_
      refine vk_getf hx hb ((hE.2.1.1 _ hi_p0).2.2.1) hS hown lk0 (fun _ h9 => h9) dJ0_charAt_5068e_17 ?_
      refine lv_iload_n hx hb dJ0_charAt_5068e_20 rfl (lv_at hl 1 rfl) ?_
      exact ob_none hf
    · replace hf := ob_neg c2 hf
      refine lv_aload_n hx hb dJ0_charAt_5068e_7 rfl (lv_at hl 0 rfl) ?_
      refine vk_getf hx hb ((hE.2.1.1 _ hi_p0).2.2.1) hS hown lk0 (fun _ h9 => h9) dJ0_charAt_5068e_8 ?_
      refine lv_iload_n hx hb dJ0_charAt_5068e_11 rfl (lv_at hl 1 rfl) ?_
      obtain ⟨r3, hr3, hf⟩ := ob_bind hf
      have hFc := va_free (wc := ([] : va_W)) hD hS hA [] rfl
      refine zc_ro (va_runS (As := [.ref (G.2.2.2 p0), .int p1]) (rest := []) ⟨hx, hb, hml, hown, hts⟩ (c_J1_charAt_3b067 l G H.size p0 p1 _ hr3) (va_cwS 2 hts gJ0_charAt_5068e_J1_charAt_3b067 rfl rfl rfl (by decide +kernel) ⟨Nat.le_of_ble_eq_true rfl, Nat.le_of_ble_eq_true rfl⟩) ⟨PcM.blind, PcM.ok hP hD hK hE hS hFc⟩ rfl rfl hl.1 rfl (lv_room (Nat.le_of_ble_eq_true rfl)) dJ0_charAt_5068e_12 ⟨Nat.le_refl _, Nat.le_refl _⟩) hP hD hS hA [] rfl (fun H locs hP hS => ?_)
      obtain ⟨hg4, hf⟩ := ob_guard hf
      exact fin _ _ _ _ _ hf (congrArg Value.int hg4) hP hD hS dJ0_charAt_5068e_15
  exact go _ _ hP hD hS _ hl
abbrev rm_X2_suits : Room := { frames := 6, cells := 0, slots := 0, locals := 137 }
set_option maxHeartbeats 4000000 in
set_option maxRecDepth 100000 in
theorem c_X2_suits (l : Launch) (G : zG) (a0 : AT_X2) (sz : Nat) (S0 : ST_X2) (p1 : Int32) (p2 : Int32) (out : Int32) (hf : f_X2_suits S0 p1 p2 = some out) : Met l yX2_suits wsX2_suits rm_X2_suits (PcM G (ce_X2 G.2.1 a0 S0) [.ref a0.1, .int p1, .int p2] sz) (QRo G (ce_X2 G.2.1 a0 S0) out (va_A (ce_X2 G.2.1 a0 S0) sz)) 0 0 (va_A (ce_X2 G.2.1 a0 S0) sz) := by
  rw [f_X2_suits] at hf
  refine Met.ofW (cc := cX2_suits) (maxL := 3) (ret := (some .boolean)) (by decide) rfl ?_
  intro p e s m args below meth c s₁ B hml hv
  obtain ⟨hargs, hsz, hP, hK, hD0, hE⟩ := hv
  have hx := B.exec
  have hb := B.bytes
  have hr := B.returns
  have hts := atoms_spec (ws := wsX2_suits) B.pre
  have hown : s.vm.findClass RX2 = some m.cls := findClass_of_methodNamed B.named
  have hlocks := B.notSynchronized
  subst hsz
  have hD := hD0.self (sz := s.heap.size)
  generalize hAe : va_A (ce_X2 G.2.1 a0 S0) s.heap.size = A at hD hE ⊢
  have hA : ∀ q : Nat, s.heap.size ≤ q → A q := fun q h => by rw [← hAe]; exact Or.inr h
  have hS : va_S A s.heap s.heap [] := va_S.rf
  have hl := lv_entry ([.ref a0.1, .int p1, .int p2]) (n := 3) (Nat.le_of_ble_eq_true rfl)
  have hent : entryFrame m args 3 = F0 m 0 ((lg_sl ([.ref a0.1, .int p1, .int p2]) ++ List.replicate (3 - (lg_sl ([.ref a0.1, .int p1, .int p2])).length) Slot.unset).toArray) [] := by rw [hargs, lg_entry_eq]
  rw [hent]
  clear hent
  generalize (lg_sl ([.ref a0.1, .int p1, .int p2]) ++ List.replicate (3 - (lg_sl ([.ref a0.1, .int p1, .int p2])).length) Slot.unset).toArray = ls at hl ⊢
  have hl : lv_has ls 3 [(0, .ref a0.1), (1, .int p1), (2, .int p2)] := hl
  have fin : ∀ (pc : Nat) (v : Int32) (H : Heap) (locs : List Loc) (ls : Array Slot), some v = some out → narrow .boolean (.int v) = .int v → va_P G.1 vwCl (ce_X2 G.2.1 a0 S0) H → va_D A (ce_X2 G.2.1 a0 S0) → va_S A s.heap H locs → decode cX2_suits pc = .ok (.ireturn, 1) → W p l e (headSpec wsX2_suits rm_X2_suits).room s m args below meth c H locs 0 0 (MQ below (QRo G (ce_X2 G.2.1 a0 S0) out A) args s 0 0 A) (F0 m pc ls [.int v]) := fun pc v H locs ls ho hn hP hD hS hd => W.zret (v := v) hx hb hr hn (fun t ht hW => ⟨⟨v, (), rfl, Option.some.inj ho, by first | (rw [ht]; exact hP) | (dsimp only; rw [ht]; exact hP)⟩, hS.F ht⟩) hS.2.2 hd
  generalize MQ below (QRo G (ce_X2 G.2.1 a0 S0) out A) args s 0 0 A = Q at fin ⊢
  have blk50 : f_X2_suits_b50 S0 = some out → ∀ (H : Heap) (locs : List Loc), va_P G.1 vwCl (ce_X2 G.2.1 a0 S0) H → va_D A (ce_X2 G.2.1 a0 S0) → va_S A s.heap H locs → ∀ (ls : Array Slot), lv_has ls 3 [] → W p l e (headSpec wsX2_suits rm_X2_suits).room s m args below meth c H locs 0 0 Q (F0 m 50 ls []) := by
    intro hf H locs hP hD hS ls hl
    rw [f_X2_suits_b50] at hf
    refine lv_iconst (v := 0) hx hb dX2_suits_50 (by decide) ?_
    exact fin _ _ _ _ _ hf rfl hP hD hS dX2_suits_51
  have go : ∀ (H : Heap) (locs : List Loc), va_P G.1 vwCl (ce_X2 G.2.1 a0 S0) H → va_D A (ce_X2 G.2.1 a0 S0) → va_S A s.heap H locs → ∀ (ls : Array Slot), lv_has ls 3 [(0, .ref a0.1), (1, .int p1), (2, .int p2)] → W p l e (headSpec wsX2_suits rm_X2_suits).room s m args below meth c H locs 0 0 Q (F0 m 0 ls []) := by
    intro H locs hP hD hS ls hl
    refine lv_iload_n hx hb dX2_suits_0 rfl (lv_at hl 2 rfl) ?_
    by_cases c1_0 : p2 = 48
    · replace hf := ob_pos c1_0 hf
      refine lv_lookup (x := p2) (off := 27) (tgt := 28) hx hb dX2_suits_1 (by decide) (by rw [c1_0]; decide) (by decide) ?_
      refine lv_aload_n hx hb dX2_suits_28 rfl (lv_at hl 0 rfl) ?_
      refine lv_iload_n hx hb dX2_suits_29 rfl (lv_at hl 1 rfl) ?_
      obtain ⟨r2, hr2, hf⟩ := ob_bind hf
      have hFc := va_free (wc := ce_X2 G.2.1 a0 S0) hD hS hA [0, 1] rfl
      refine zc_ro (va_runV (As := [.int p1]) (rest := []) ⟨hx, hb, hml, hown, hts⟩ (c_X2_digit l G a0 H.size S0 p1 _ hr2) (cwV 1 hts gX2_suits_X2_digit rfl rfl rfl (by decide +kernel) ⟨Nat.le_of_ble_eq_true rfl, Nat.le_of_ble_eq_true rfl⟩) ⟨PcM.blind, va_recv hK hP (ci := 2) (q0 := 0) rfl rfl, PcM.ok hP hD hK hE hS hFc⟩ rfl rfl hl.1 rfl (lv_room (Nat.le_of_ble_eq_true rfl)) dX2_suits_30 ⟨Nat.le_refl _, Nat.le_refl _⟩) hP hD hS hA [0, 1] rfl (fun H locs hP hS => ?_)
      refine lv_if_lt (tgt := 50) hx hb dX2_suits_33 (by decide) (fun c3 => ?_) (fun c3 => ?_)
      · replace hf := ob_pos c3 hf
        exact blk50  hf _ _ hP hD hS _ (lv_sub hl [] rfl)
      · replace hf := ob_neg c3 hf
        refine lv_aload_n hx hb dX2_suits_36 rfl (lv_at hl 0 rfl) ?_
        refine lv_iload_n hx hb dX2_suits_37 rfl (lv_at hl 1 rfl) ?_
        obtain ⟨r4, hr4, hf⟩ := ob_bind hf
        have hFc := va_free (wc := ce_X2 G.2.1 a0 S0) hD hS hA [0, 1] rfl
        refine zc_ro (va_runV (As := [.int p1]) (rest := []) ⟨hx, hb, hml, hown, hts⟩ (c_X2_digit l G a0 H.size S0 p1 _ hr4) (cwV 1 hts gX2_suits_X2_digit rfl rfl rfl (by decide +kernel) ⟨Nat.le_of_ble_eq_true rfl, Nat.le_of_ble_eq_true rfl⟩) ⟨PcM.blind, va_recv hK hP (ci := 2) (q0 := 0) rfl rfl, PcM.ok hP hD hK hE hS hFc⟩ rfl rfl hl.1 rfl (lv_room (Nat.le_of_ble_eq_true rfl)) dX2_suits_38 ⟨Nat.le_refl _, Nat.le_refl _⟩) hP hD hS hA [0, 1] rfl (fun H locs hP hS => ?_)
        refine lv_bipush (v := 9) hx hb dX2_suits_41 (by decide) ?_
        refine lv_icmp_gt (tgt := 50) hx hb dX2_suits_43 (by decide) (fun c5 => ?_) (fun c5 => ?_)
        · replace hf := ob_pos c5 hf
          exact blk50  hf _ _ hP hD hS _ (lv_sub hl [] rfl)
        · replace hf := ob_neg c5 hf
          refine lv_iconst (v := 1) hx hb dX2_suits_46 (by decide) ?_
          refine lv_goto (tgt := 51) hx hb dX2_suits_47 (by decide) ?_
          exact fin _ _ _ _ _ hf rfl hP hD hS dX2_suits_51
    · replace hf := ob_neg c1_0 hf
      by_cases c1_1 : p2 = 99
      · replace hf := ob_pos c1_1 hf
        refine lv_lookup (x := p2) (off := 51) (tgt := 52) hx hb dX2_suits_1 (by decide) (by rw [c1_1]; decide) (by decide) ?_
        refine lv_aload_n hx hb dX2_suits_52 rfl (lv_at hl 0 rfl) ?_
        refine lv_iload_n hx hb dX2_suits_53 rfl (lv_at hl 1 rfl) ?_
        obtain ⟨r6, hr6, hf⟩ := ob_bind hf
        have hFc := va_free (wc := ce_X2 G.2.1 a0 S0) hD hS hA [0, 1] rfl
        refine zc_ro (va_runV (As := [.int p1]) (rest := []) ⟨hx, hb, hml, hown, hts⟩ (c_X2_kind l G a0 H.size S0 p1 _ hr6) (cwV 1 hts gX2_suits_X2_kind rfl rfl rfl (by decide +kernel) ⟨Nat.le_of_ble_eq_true rfl, Nat.le_of_ble_eq_true rfl⟩) ⟨PcM.blind, va_recv hK hP (ci := 2) (q0 := 0) rfl rfl, PcM.ok hP hD hK hE hS hFc⟩ rfl rfl hl.1 rfl (lv_room (Nat.le_of_ble_eq_true rfl)) dX2_suits_54 ⟨Nat.le_refl _, Nat.le_refl _⟩) hP hD hS hA [0, 1] rfl (fun H locs hP hS => ?_)
        refine lv_if_lt (tgt := 64) hx hb dX2_suits_57 (by decide) (fun c7 => ?_) (fun c7 => ?_)
        · replace hf := ob_pos c7 hf
          refine lv_iconst (v := 0) hx hb dX2_suits_64 (by decide) ?_
          exact fin _ _ _ _ _ hf rfl hP hD hS dX2_suits_65
        · replace hf := ob_neg c7 hf
          refine lv_iconst (v := 1) hx hb dX2_suits_60 (by decide) ?_
          refine lv_goto (tgt := 65) hx hb dX2_suits_61 (by decide) ?_
          exact fin _ _ _ _ _ hf rfl hP hD hS dX2_suits_65
      · replace hf := ob_neg c1_1 hf
        refine lv_lookup (x := p2) (off := 65) (tgt := 66) hx hb dX2_suits_1 (by decide) (by show Op.lookupswitch.offset [(48, 27), (99, 51)] _ _ = _; rw [lv_osw (a := 48) c1_0 rfl, lv_osw (a := 99) c1_1 rfl]; rfl) (by decide) ?_
        refine lv_aload_n hx hb dX2_suits_66 rfl (lv_at hl 0 rfl) ?_
        refine lv_iload_n hx hb dX2_suits_67 rfl (lv_at hl 1 rfl) ?_
        obtain ⟨r8, hr8, hf⟩ := ob_bind hf
        have hFc := va_free (wc := ce_X2 G.2.1 a0 S0) hD hS hA [0, 1] rfl
        refine zc_ro (va_runV (As := [.int p1]) (rest := []) ⟨hx, hb, hml, hown, hts⟩ (c_X2_sign l G a0 H.size S0 p1 _ hr8) (cwV 1 hts gX2_suits_X2_sign rfl rfl rfl (by decide +kernel) ⟨Nat.le_of_ble_eq_true rfl, Nat.le_of_ble_eq_true rfl⟩) ⟨PcM.blind, va_recv hK hP (ci := 2) (q0 := 0) rfl rfl, PcM.ok hP hD hK hE hS hFc⟩ rfl rfl hl.1 rfl (lv_room (Nat.le_of_ble_eq_true rfl)) dX2_suits_68 ⟨Nat.le_refl _, Nat.le_refl _⟩) hP hD hS hA [0, 1] rfl (fun H locs hP hS => ?_)
        refine lv_iload_n hx hb dX2_suits_71 rfl (lv_at hl 2 rfl) ?_
        refine lv_icmp_ne (tgt := 79) hx hb dX2_suits_72 (by decide) (fun c9 => ?_) (fun c9 => ?_)
        · replace hf := ob_neg c9 hf
          refine lv_iconst (v := 0) hx hb dX2_suits_79 (by decide) ?_
          exact fin _ _ _ _ _ hf rfl hP hD hS dX2_suits_80
        · replace hf := ob_pos c9 hf
          refine lv_iconst (v := 1) hx hb dX2_suits_75 (by decide) ?_
          refine lv_goto (tgt := 80) hx hb dX2_suits_76 (by decide) ?_
          exact fin _ _ _ _ _ hf rfl hP hD hS dX2_suits_80
  exact go _ _ hP hD hS _ hl
abbrev rm_X2_stuckPlace : Room := { frames := 7, cells := 0, slots := 0, locals := 159 }
set_option maxHeartbeats 4000000 in
set_option maxRecDepth 100000 in
theorem c_X2_stuckPlace (l : Launch) (G : zG) (a0 : AT_X2) (sz : Nat) (S0 : ST_X2) (out : Int32) (hf : f_X2_stuckPlace S0 = some out) : Met l yX2_stuckPlace wsX2_stuckPlace rm_X2_stuckPlace (PcM G (ce_X2 G.2.1 a0 S0) [.ref a0.1] sz) (QRo G (ce_X2 G.2.1 a0 S0) out (va_A (ce_X2 G.2.1 a0 S0) sz)) 0 0 (va_A (ce_X2 G.2.1 a0 S0) sz) := by
  rw [f_X2_stuckPlace] at hf
  refine Met.ofW (cc := cX2_stuckPlace) (maxL := 4) (ret := (some .int)) (by decide) rfl ?_
  intro p e s m args below meth c s₁ B hml hv
  obtain ⟨hargs, hsz, hP, hK, hD0, hE⟩ := hv
  have hx := B.exec
  have hb := B.bytes
  have hr := B.returns
  have hts := atoms_spec (ws := wsX2_stuckPlace) B.pre
  have hown : s.vm.findClass RX2 = some m.cls := findClass_of_methodNamed B.named
  have hlocks := B.notSynchronized
  subst hsz
  have hD := hD0.self (sz := s.heap.size)
  generalize hAe : va_A (ce_X2 G.2.1 a0 S0) s.heap.size = A at hD hE ⊢
  have hA : ∀ q : Nat, s.heap.size ≤ q → A q := fun q h => by rw [← hAe]; exact Or.inr h
  have hS : va_S A s.heap s.heap [] := va_S.rf
  have hl := lv_entry ([.ref a0.1]) (n := 4) (Nat.le_of_ble_eq_true rfl)
  have hent : entryFrame m args 4 = F0 m 0 ((lg_sl ([.ref a0.1]) ++ List.replicate (4 - (lg_sl ([.ref a0.1])).length) Slot.unset).toArray) [] := by rw [hargs, lg_entry_eq]
  rw [hent]
  clear hent
  generalize (lg_sl ([.ref a0.1]) ++ List.replicate (4 - (lg_sl ([.ref a0.1])).length) Slot.unset).toArray = ls at hl ⊢
  have hl : lv_has ls 4 [(0, .ref a0.1)] := hl
  have lk0 := hts (Cond.fieldLink RX2 15 "EnginesOnList$Letters" "size" "I") (List.mem_of_getElem? (i := 1) rfl)
  have hinX2 : ∀ w ∈ wsX20, w ∈ wsX2_stuckPlace := by decide +kernel
  have fin : ∀ (pc : Nat) (v : Int32) (H : Heap) (locs : List Loc) (ls : Array Slot), some v = some out → va_P G.1 vwCl (ce_X2 G.2.1 a0 S0) H → va_D A (ce_X2 G.2.1 a0 S0) → va_S A s.heap H locs → decode cX2_stuckPlace pc = .ok (.ireturn, 1) → W p l e (headSpec wsX2_stuckPlace rm_X2_stuckPlace).room s m args below meth c H locs 0 0 (MQ below (QRo G (ce_X2 G.2.1 a0 S0) out A) args s 0 0 A) (F0 m pc ls [.int v]) := fun pc v H locs ls ho hP hD hS hd => W.iret (v := v) hx hb hr (fun t ht hW => ⟨⟨v, (), rfl, Option.some.inj ho, by first | (rw [ht]; exact hP) | (dsimp only; rw [ht]; exact hP)⟩, hS.F ht⟩) hS.2.2 hd
  generalize MQ below (QRo G (ce_X2 G.2.1 a0 S0) out A) args s 0 0 A = Q at fin ⊢
  have blk2 : ∀ (fu2 : Nat), ∀ (v1 : Int32), f_X2_stuckPlace_b2 S0 fu2 v1 = some out → ∀ (H : Heap) (locs : List Loc), va_P G.1 vwCl (ce_X2 G.2.1 a0 S0) H → va_D A (ce_X2 G.2.1 a0 S0) → va_S A s.heap H locs → ∀ (ls : Array Slot), lv_has ls 4 [(0, .ref a0.1), (1, .int v1)] → W p l e (headSpec wsX2_stuckPlace rm_X2_stuckPlace).room s m args below meth c H locs 0 0 Q (F0 m 2 ls []) := by
    intro fu2
    induction fu2 with
    | zero => intro v1 hf; exact ob_none hf
    | succ fu2 ih2 =>
      intro v1 hf H locs hP hD hS ls hl
      rw [f_X2_stuckPlace_b2] at hf
      have blk22 : ∀ (fu22 : Nat), ∀ (v1 : Int32) (n2 : Nat) (v3 : Int32), f_X2_stuckPlace_b22 S0 (f_X2_stuckPlace_b2 S0 fu2) fu22 v1 n2 v3 = some out → ∀ (H : Heap) (locs : List Loc), va_P G.1 vwCl (ce_X2 G.2.1 a0 S0) H → va_D A (ce_X2 G.2.1 a0 S0) → va_S A s.heap H locs → ∀ (ls : Array Slot), lv_has ls 4 [(0, .ref a0.1), (1, .int v1), (2, .ref (G.2.2.1 n2)), (3, .int v3)] → W p l e (headSpec wsX2_stuckPlace rm_X2_stuckPlace).room s m args below meth c H locs 0 0 Q (F0 m 22 ls []) := by
        intro fu22
        induction fu22 with
        | zero => intro v1 n2 v3 hf; exact ob_none hf
        | succ fu22 ih22 =>
          intro v1 n2 v3 hf H locs hP hD hS ls hl
          rw [f_X2_stuckPlace_b22] at hf
          obtain ⟨hi_n2, hf⟩ := ob_guard hf
          refine lv_iload_n hx hb dX2_stuckPlace_22 rfl (lv_at hl 3 rfl) ?_
          refine lv_aload_n hx hb dX2_stuckPlace_23 rfl (lv_at hl 2 rfl) ?_
          obtain ⟨r1, hr1, hf⟩ := ob_bind hf
          have hPc : va_P G.1 vwCl (([] : va_W)) H := hP.sub [] rfl
          have hDc : va_D A (([] : va_W)) := hD.sub [] (by decide) rfl
          have hFc := va_free (wc := ([] : va_W)) hD hS hA [] rfl
          refine zc_ro (va_runV (As := []) (rest := [.int v3]) ⟨hx, hb, hml, hown, hts⟩ (c_J0_length_8abf5 l G H.size n2 _ hr1) (cwV 0 hts gX2_stuckPlace_J0_length_8abf5 rfl rfl rfl (by decide +kernel) ⟨Nat.le_of_ble_eq_true rfl, Nat.le_of_ble_eq_true rfl⟩) ⟨PcM.blind, vk_recv hE.2.1 hi_n2 hS, PcM.ok hPc hDc hK hE hS hFc⟩ rfl rfl hl.1 rfl (lv_room (Nat.le_of_ble_eq_true rfl)) dX2_stuckPlace_24 ⟨Nat.le_refl _, Nat.le_refl _⟩) hP hD hS hA [] rfl (fun H locs hP hS => ?_)
          refine lv_icmp_ge (tgt := 54) hx hb dX2_stuckPlace_27 (by decide) (fun c2 => ?_) (fun c2 => ?_)
          · replace hf := ob_pos c2 hf
            refine lv_iinc (v := v1 + 1) (lv' := [(1, .int (v1 + 1)), (0, .ref a0.1), (2, .ref (G.2.2.1 n2)), (3, .int v3)]) hx hb dX2_stuckPlace_54 hl (k := 1) rfl rfl (by decide) rfl (fun ls hl => ?_)
            refine lv_iload_n hx hb dX2_stuckPlace_57 rfl (lv_at hl 0 rfl) ?_
            refine lv_aload_n hx hb dX2_stuckPlace_58 rfl (lv_at hl 1 rfl) ?_
            refine va_get (D := G.1) (ci := 2) (v := .int S0.2) (C := RX2) (T := TX2) (N := 2) hx hb hts hinX2 hown hK hP 0 rfl rfl 1 (by decide) lk0 (fun _ h9 => h9) rfl dX2_stuckPlace_59 ?_
            refine lv_icmp_lt (tgt := 2) hx hb dX2_stuckPlace_62 (by decide) (fun c3 => ?_) (fun c3 => ?_)
            · replace hf := ob_pos c3 hf
              exact ih2 _ hf _ _ hP hD hS _ (lv_sub hl [1, 0] rfl)
            · replace hf := ob_neg c3 hf
              refine lv_iconst (v := (-1)) hx hb dX2_stuckPlace_65 (by decide) ?_
              exact fin _ _ _ _ _ hf hP hD hS dX2_stuckPlace_66
          · replace hf := ob_neg c2 hf
            refine lv_iinc (v := v1 + 1) (lv' := [(1, .int (v1 + 1)), (0, .ref a0.1), (2, .ref (G.2.2.1 n2)), (3, .int v3)]) hx hb dX2_stuckPlace_30 hl (k := 1) rfl rfl (by decide) rfl (fun ls hl => ?_)
            refine lv_aload_n hx hb dX2_stuckPlace_33 rfl (lv_at hl 1 rfl) ?_
            refine lv_iload_n hx hb dX2_stuckPlace_34 rfl (lv_at hl 0 rfl) ?_
            refine lv_aload_n hx hb dX2_stuckPlace_35 rfl (lv_at hl 2 rfl) ?_
            refine lv_iload_n hx hb dX2_stuckPlace_36 rfl (lv_at hl 3 rfl) ?_
            obtain ⟨r4, hr4, hf⟩ := ob_bind hf
            have hPc : va_P G.1 vwCl (([] : va_W)) H := hP.sub [] rfl
            have hDc : va_D A (([] : va_W)) := hD.sub [] (by decide) rfl
            have hFc := va_free (wc := ([] : va_W)) hD hS hA [] rfl
            refine zc_ro (va_runV (As := [.int v3]) (rest := [.int (v1 + 1), .ref a0.1]) ⟨hx, hb, hml, hown, hts⟩ (c_J0_charAt_5068e l G H.size n2 v3 _ hr4) (cwV 1 hts gX2_stuckPlace_J0_charAt_5068e rfl rfl rfl (by decide +kernel) ⟨Nat.le_of_ble_eq_true rfl, Nat.le_of_ble_eq_true rfl⟩) ⟨PcM.blind, vk_recv hE.2.1 hi_n2 hS, PcM.ok hPc hDc hK hE hS hFc⟩ rfl rfl hl.1 rfl (lv_room (Nat.le_of_ble_eq_true rfl)) dX2_stuckPlace_37 ⟨Nat.le_refl _, Nat.le_refl _⟩) hP hD hS hA [] rfl (fun H locs hP hS => ?_)
            obtain ⟨r5, hr5, hf⟩ := ob_bind hf
            have hFc := va_free (wc := ce_X2 G.2.1 a0 S0) hD hS hA [0, 1] rfl
            refine zc_ro (va_runV (As := [.int (v1 + 1), .int r4]) (rest := []) ⟨hx, hb, hml, hown, hts⟩ (c_X2_suits l G a0 H.size S0 (v1 + 1) r4 _ hr5) (cwV 2 hts gX2_stuckPlace_X2_suits rfl rfl rfl (by decide +kernel) ⟨Nat.le_of_ble_eq_true rfl, Nat.le_of_ble_eq_true rfl⟩) ⟨PcM.blind, va_recv hK hP (ci := 2) (q0 := 0) rfl rfl, PcM.ok hP hD hK hE hS hFc⟩ rfl rfl hl.1 rfl (lv_room (Nat.le_of_ble_eq_true rfl)) dX2_stuckPlace_40 ⟨Nat.le_refl _, Nat.le_refl _⟩) hP hD hS hA [0, 1] rfl (fun H locs hP hS => ?_)
            refine lv_if_ne (tgt := 48) hx hb dX2_stuckPlace_43 (by decide) (fun c6 => ?_) (fun c6 => ?_)
            · replace hf := ob_neg c6 hf
              refine lv_iinc (v := v3 + 1) (lv' := [(3, .int (v3 + 1)), (1, .int (v1 + 1)), (0, .ref a0.1), (2, .ref (G.2.2.1 n2))]) hx hb dX2_stuckPlace_48 hl (k := 3) rfl rfl (by decide) rfl (fun ls hl => ?_)
              refine lv_goto (tgt := 22) hx hb dX2_stuckPlace_51 (by decide) ?_
              exact ih22 _ _ _ hf _ _ hP hD hS _ (lv_sub hl [2, 1, 3, 0] rfl)
            · replace hf := ob_pos c6 hf
              refine lv_iload_n hx hb dX2_stuckPlace_46 rfl (lv_at hl 0 rfl) ?_
              exact fin _ _ _ _ _ hf hP hD hS dX2_stuckPlace_47
      refine lv_aload_n hx hb dX2_stuckPlace_2 rfl (lv_at hl 0 rfl) ?_
      refine lv_iload_n hx hb dX2_stuckPlace_3 rfl (lv_at hl 1 rfl) ?_
      obtain ⟨r7, hr7, hf⟩ := ob_bind hf
      have hFc := va_free (wc := ce_X2 G.2.1 a0 S0) hD hS hA [0, 1] rfl
      refine zc_ro (va_runV (As := [.int v1]) (rest := []) ⟨hx, hb, hml, hown, hts⟩ (c_X2_sign l G a0 H.size S0 v1 _ hr7) (cwV 1 hts gX2_stuckPlace_X2_sign rfl rfl rfl (by decide +kernel) ⟨Nat.le_of_ble_eq_true rfl, Nat.le_of_ble_eq_true rfl⟩) ⟨PcM.blind, va_recv hK hP (ci := 2) (q0 := 0) rfl rfl, PcM.ok hP hD hK hE hS hFc⟩ rfl rfl hl.1 rfl (lv_room (Nat.le_of_ble_eq_true rfl)) dX2_stuckPlace_4 ⟨Nat.le_refl _, Nat.le_refl _⟩) hP hD hS hA [0, 1] rfl (fun H locs hP hS => ?_)
      obtain ⟨r8, hr8, hf⟩ := ob_bind hf
      obtain ⟨hi_r8, hf⟩ := ob_guard hf
      have hPc : va_P G.1 vwCl (([] : va_W)) H := hP.sub [] rfl
      have hDc : va_D A (([] : va_W)) := hD.sub [] (by decide) rfl
      have hFc := va_free (wc := ([] : va_W)) hD hS hA [] rfl
      refine zc_st (va_runS (As := [.int r7]) (rest := []) ⟨hx, hb, hml, hown, hts⟩ (c_X2_shapeFrom l G H.size r7 _ hr8) (va_cwS 1 hts gX2_stuckPlace_X2_shapeFrom rfl rfl rfl (by decide +kernel) ⟨Nat.le_of_ble_eq_true rfl, Nat.le_of_ble_eq_true rfl⟩) ⟨PcM.blind, PcM.ok hPc hDc hK hE hS hFc⟩ rfl rfl hl.1 rfl (lv_room (Nat.le_of_ble_eq_true rfl)) dX2_stuckPlace_7 ⟨Nat.le_refl _, Nat.le_refl _⟩) hP hD hS hA [] rfl (fun H locs hP hS => ?_)
      refine lv_astore_n (lv' := [(2, .ref (G.2.2.1 r8)), (0, .ref a0.1), (1, .int v1)]) hx hb dX2_stuckPlace_10 rfl hl (by decide) rfl (fun ls hl => ?_)
      refine lv_aload_n hx hb dX2_stuckPlace_11 rfl (lv_at hl 0 rfl) ?_
      obtain ⟨r9, hr9, hf⟩ := ob_bind hf
      have hPc : va_P G.1 vwCl (([] : va_W)) H := hP.sub [] rfl
      have hDc : va_D A (([] : va_W)) := hD.sub [] (by decide) rfl
      have hFc := va_free (wc := ([] : va_W)) hD hS hA [] rfl
      refine zc_ro (va_runV (As := []) (rest := []) ⟨hx, hb, hml, hown, hts⟩ (c_J0_isEmpty_aae02 l G H.size r8 _ hr9) (cwV 0 hts gX2_stuckPlace_J0_isEmpty_aae02 rfl rfl rfl (by decide +kernel) ⟨Nat.le_of_ble_eq_true rfl, Nat.le_of_ble_eq_true rfl⟩) ⟨PcM.blind, vk_recv hE.2.1 hi_r8 hS, PcM.ok hPc hDc hK hE hS hFc⟩ rfl rfl hl.1 rfl (lv_room (Nat.le_of_ble_eq_true rfl)) dX2_stuckPlace_12 ⟨Nat.le_refl _, Nat.le_refl _⟩) hP hD hS hA [] rfl (fun H locs hP hS => ?_)
      refine lv_if_eq (tgt := 20) hx hb dX2_stuckPlace_15 (by decide) (fun c10 => ?_) (fun c10 => ?_)
      · replace hf := ob_pos c10 hf
        refine lv_iconst (v := 1) hx hb dX2_stuckPlace_20 (by decide) ?_
        refine lv_istore_n (lv' := [(3, .int 1), (2, .ref (G.2.2.1 r8)), (0, .ref a0.1), (1, .int v1)]) hx hb dX2_stuckPlace_21 rfl hl (by decide) rfl (fun ls hl => ?_)
        exact blk22 4096 _ _ _ hf _ _ hP hD hS _ (lv_sub hl [2, 3, 1, 0] rfl)
      · replace hf := ob_neg c10 hf
        refine lv_iload_n hx hb dX2_stuckPlace_18 rfl (lv_at hl 2 rfl) ?_
        exact fin _ _ _ _ _ hf hP hD hS dX2_stuckPlace_19
  have go : ∀ (H : Heap) (locs : List Loc), va_P G.1 vwCl (ce_X2 G.2.1 a0 S0) H → va_D A (ce_X2 G.2.1 a0 S0) → va_S A s.heap H locs → ∀ (ls : Array Slot), lv_has ls 4 [(0, .ref a0.1)] → W p l e (headSpec wsX2_stuckPlace rm_X2_stuckPlace).room s m args below meth c H locs 0 0 Q (F0 m 0 ls []) := by
    intro H locs hP hD hS ls hl
    refine lv_iconst (v := 0) hx hb dX2_stuckPlace_0 (by decide) ?_
    refine lv_istore_n (lv' := [(1, .int 0), (0, .ref a0.1)]) hx hb dX2_stuckPlace_1 rfl hl (by decide) rfl (fun ls hl => ?_)
    exact blk2 4096 _ hf _ _ hP hD hS _ (lv_sub hl [1, 0] rfl)
  exact go _ _ hP hD hS _ hl
abbrev rm_X4_newAt : Room := { frames := 5, cells := 0, slots := 0, locals := 117 }
set_option maxHeartbeats 4000000 in
set_option maxRecDepth 100000 in
theorem c_X4_newAt (l : Launch) (G : zG) (a0 : AT_X4) (sz : Nat) (S0 : ST_X4) (p1 : Int32) (p2 : Int32) (out : Int32) (hf : f_X4_newAt S0 p1 p2 = some out) : Met l yX4_newAt wsX4_newAt rm_X4_newAt (PcM G (ce_X4 G.2.1 a0 S0) [.ref a0.1, .int p1, .int p2] sz) (QRo G (ce_X4 G.2.1 a0 S0) out (va_A (ce_X4 G.2.1 a0 S0) sz)) 0 0 (va_A (ce_X4 G.2.1 a0 S0) sz) := by
  rw [f_X4_newAt] at hf
  refine Met.ofW (cc := cX4_newAt) (maxL := 3) (ret := (some .int)) (by decide) rfl ?_
  intro p e s m args below meth c s₁ B hml hv
  obtain ⟨hargs, hsz, hP, hK, hD0, hE⟩ := hv
  have hx := B.exec
  have hb := B.bytes
  have hr := B.returns
  have hts := atoms_spec (ws := wsX4_newAt) B.pre
  have hown : s.vm.findClass RX4 = some m.cls := findClass_of_methodNamed B.named
  have hlocks := B.notSynchronized
  subst hsz
  have hD := hD0.self (sz := s.heap.size)
  generalize hAe : va_A (ce_X4 G.2.1 a0 S0) s.heap.size = A at hD hE ⊢
  have hA : ∀ q : Nat, s.heap.size ≤ q → A q := fun q h => by rw [← hAe]; exact Or.inr h
  have hS : va_S A s.heap s.heap [] := va_S.rf
  have hl := lv_entry ([.ref a0.1, .int p1, .int p2]) (n := 3) (Nat.le_of_ble_eq_true rfl)
  have hent : entryFrame m args 3 = F0 m 0 ((lg_sl ([.ref a0.1, .int p1, .int p2]) ++ List.replicate (3 - (lg_sl ([.ref a0.1, .int p1, .int p2])).length) Slot.unset).toArray) [] := by rw [hargs, lg_entry_eq]
  rw [hent]
  clear hent
  generalize (lg_sl ([.ref a0.1, .int p1, .int p2]) ++ List.replicate (3 - (lg_sl ([.ref a0.1, .int p1, .int p2])).length) Slot.unset).toArray = ls at hl ⊢
  have hl : lv_has ls 3 [(0, .ref a0.1), (1, .int p1), (2, .int p2)] := hl
  have lk0 := hts (Cond.fieldLink RX4 12 "EnginesOnList$World" "fleet" "LEnginesOnList$Fleet;") (List.mem_of_getElem? (i := 1) rfl)
  have lk1 := hts (Cond.initialized RX1) (List.mem_of_getElem? (i := 3) rfl)
  have lk2 := hts (Cond.instanceMethod yX1_passing) (List.mem_of_getElem? (i := 2) rfl)
  have lk3 := hts (Cond.selects RX1 yX1_passing yX1_passing) (List.mem_of_getElem? (i := 4) rfl)
  have lk4 := hts (Cond.instanceMethod yX1_newOf) (List.mem_of_getElem? (i := 26) rfl)
  have lk5 := hts (Cond.selects RX1 yX1_newOf yX1_newOf) (List.mem_of_getElem? (i := 27) rfl)
  have hinX4 : ∀ w ∈ wsX40, w ∈ wsX4_newAt := by decide +kernel
  have fin : ∀ (pc : Nat) (v : Int32) (H : Heap) (locs : List Loc) (ls : Array Slot), some v = some out → va_P G.1 vwCl (ce_X4 G.2.1 a0 S0) H → va_D A (ce_X4 G.2.1 a0 S0) → va_S A s.heap H locs → decode cX4_newAt pc = .ok (.ireturn, 1) → W p l e (headSpec wsX4_newAt rm_X4_newAt).room s m args below meth c H locs 0 0 (MQ below (QRo G (ce_X4 G.2.1 a0 S0) out A) args s 0 0 A) (F0 m pc ls [.int v]) := fun pc v H locs ls ho hP hD hS hd => W.iret (v := v) hx hb hr (fun t ht hW => ⟨⟨v, (), rfl, Option.some.inj ho, by first | (rw [ht]; exact hP) | (dsimp only; rw [ht]; exact hP)⟩, hS.F ht⟩) hS.2.2 hd
  generalize MQ below (QRo G (ce_X4 G.2.1 a0 S0) out A) args s 0 0 A = Q at fin ⊢
  have go : ∀ (H : Heap) (locs : List Loc), va_P G.1 vwCl (ce_X4 G.2.1 a0 S0) H → va_D A (ce_X4 G.2.1 a0 S0) → va_S A s.heap H locs → ∀ (ls : Array Slot), lv_has ls 3 [(0, .ref a0.1), (1, .int p1), (2, .int p2)] → W p l e (headSpec wsX4_newAt rm_X4_newAt).room s m args below meth c H locs 0 0 Q (F0 m 0 ls []) := by
    intro H locs hP hD hS ls hl
    refine lv_aload_n hx hb dX4_newAt_0 rfl (lv_at hl 0 rfl) ?_
    refine va_get (D := G.1) (ci := 4) (v := .ref a0.2.1.1) (C := RX4) (T := TX4) (N := 3) hx hb hts hinX4 hown hK hP 0 rfl rfl 0 (by decide) lk0 (fun _ h9 => h9) rfl dX4_newAt_1 ?_
    refine lv_aload_n hx hb dX4_newAt_4 rfl (lv_at hl 0 rfl) ?_
    refine va_get (D := G.1) (ci := 4) (v := .ref a0.2.1.1) (C := RX4) (T := TX4) (N := 3) hx hb hts hinX4 hown hK hP 0 rfl rfl 0 (by decide) lk0 (fun _ h9 => h9) rfl dX4_newAt_5 ?_
    refine lv_iload_n hx hb dX4_newAt_8 rfl (lv_at hl 1 rfl) ?_
    refine lv_iload_n hx hb dX4_newAt_9 rfl (lv_at hl 2 rfl) ?_
    obtain ⟨r1, hr1, hf⟩ := ob_bind hf
    have hPc : va_P G.1 vwCl (ce_X1 G.2.1 a0.2.1 S0.1) H := hP.sub [1, 2, 3, 4, 5, 6] rfl
    have hDc : va_D A (ce_X1 G.2.1 a0.2.1 S0.1) := hD.sub [1, 2, 3, 4, 5, 6] (by decide) rfl
    have hFc := va_free (wc := ce_X1 G.2.1 a0.2.1 S0.1) hD hS hA [1, 2, 3, 4, 5, 6] rfl
    refine zc_ro (va_runVN (As := [.int p1, .int p2]) (rest := [.ref a0.2.1.1]) ⟨hx, hb, hml, hown, hts⟩ (c_X1_passing l G a0.2.1 H.size S0.1 p1 p2 _ hr1) (⟨va_cnB 2 hts gX4_newAt_X1_passing_n36 rfl rfl rfl (hE.1 _ nw_45) lk1 (by decide +kernel) ⟨Nat.le_of_ble_eq_true rfl, Nat.le_of_ble_eq_true rfl⟩, lk2, lk3⟩) ⟨PcM.blind, va_recv hK hPc (ci := 1) (q0 := 0) rfl rfl, PcM.ok hPc hDc hK hE hS hFc⟩ rfl rfl hl.1 rfl (lv_room (Nat.le_of_ble_eq_true rfl)) dX4_newAt_10 ⟨Nat.le_refl _, Nat.le_refl _⟩) hP hD hS hA [1, 2, 3, 4, 5, 6] rfl (fun H locs hP hS => ?_)
    obtain ⟨r2, hr2, hf⟩ := ob_bind hf
    have hPc : va_P G.1 vwCl (ce_X1 G.2.1 a0.2.1 S0.1) H := hP.sub [1, 2, 3, 4, 5, 6] rfl
    have hDc : va_D A (ce_X1 G.2.1 a0.2.1 S0.1) := hD.sub [1, 2, 3, 4, 5, 6] (by decide) rfl
    have hFc := va_free (wc := ce_X1 G.2.1 a0.2.1 S0.1) hD hS hA [1, 2, 3, 4, 5, 6] rfl
    refine zc_ro (va_runVN (As := [.int r1]) (rest := []) ⟨hx, hb, hml, hown, hts⟩ (c_X1_newOf l G a0.2.1 H.size S0.1 r1 _ hr2) (⟨va_cnB 1 hts gX4_newAt_X1_newOf_n40 rfl rfl rfl (hE.1 _ nw_46) lk1 (by decide +kernel) ⟨Nat.le_of_ble_eq_true rfl, Nat.le_of_ble_eq_true rfl⟩, lk4, lk5⟩) ⟨PcM.blind, va_recv hK hPc (ci := 1) (q0 := 0) rfl rfl, PcM.ok hPc hDc hK hE hS hFc⟩ rfl rfl hl.1 rfl (lv_room (Nat.le_of_ble_eq_true rfl)) dX4_newAt_13 ⟨Nat.le_refl _, Nat.le_refl _⟩) hP hD hS hA [1, 2, 3, 4, 5, 6] rfl (fun H locs hP hS => ?_)
    exact fin _ _ _ _ _ hf hP hD hS dX4_newAt_16
  exact go _ _ hP hD hS _ hl
