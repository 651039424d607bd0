abbrev rm_X1_knows : Room := { frames := 1, cells := 0, slots := 0, locals := 24 }
set_option maxHeartbeats 4000000 in
set_option maxRecDepth 100000 in
theorem c_X1_knows (l : Launch) (G : zG) (a0 : AT_X1) (sz : Nat) (S0 : ST_X1) (p1 : Int32) (out : Int32) (hf : f_X1_knows S0 p1 = some out) : Met l yX1_knows wsX1_knows rm_X1_knows (PcM G (ce_X1 G.2.1 a0 S0) [.ref a0.1, .int p1] sz) (QRo G (ce_X1 G.2.1 a0 S0) out (va_A (ce_X1 G.2.1 a0 S0) sz)) 0 0 (va_A (ce_X1 G.2.1 a0 S0) sz) := by
  rw [f_X1_knows] at hf
  refine Met.ofW (cc := cX1_knows) (maxL := 2) (ret := (some .boolean)) (by decide) rfl ?_
  intro p e s m args below meth c s₁ B hml hv
  obtain ⟨hargs, hsz, hP, hK, hD0, hE⟩ := hv
  have hx := B.exec
  have hb := B.bytes
  have hr := B.returns
  have hts := atoms_spec (ws := wsX1_knows) B.pre
  have hown : s.vm.findClass RX1 = some m.cls := findClass_of_methodNamed B.named
  have hlocks := B.notSynchronized
  subst hsz
  have hD := hD0.self (sz := s.heap.size)
  generalize hAe : va_A (ce_X1 G.2.1 a0 S0) s.heap.size = A at hD hE ⊢
  have hA : ∀ q : Nat, s.heap.size ≤ q → A q := fun q h => by rw [← hAe]; exact Or.inr h
  have hS : va_S A s.heap s.heap [] := va_S.rf
  have hl := lv_entry ([.ref a0.1, .int p1]) (n := 2) (Nat.le_of_ble_eq_true rfl)
  have hent : entryFrame m args 2 = F0 m 0 ((lg_sl ([.ref a0.1, .int p1]) ++ List.replicate (2 - (lg_sl ([.ref a0.1, .int p1])).length) Slot.unset).toArray) [] := by rw [hargs, lg_entry_eq]
  rw [hent]
  clear hent
  generalize (lg_sl ([.ref a0.1, .int p1]) ++ List.replicate (2 - (lg_sl ([.ref a0.1, .int p1])).length) Slot.unset).toArray = ls at hl ⊢
  have hl : lv_has ls 2 [(0, .ref a0.1), (1, .int p1)] := hl
  have lk0 := hts (Cond.fieldLink RX1 33 "EnginesOnList$Fleet" "size" "I") (List.mem_of_getElem? (i := 1) rfl)
  have hinX1 : ∀ w ∈ wsX10, w ∈ wsX1_knows := by decide +kernel
  have fin : ∀ (pc : Nat) (v : Int32) (H : Heap) (locs : List Loc) (ls : Array Slot), some v = some out → narrow .boolean (.int v) = .int v → va_P G.1 vwCl (ce_X1 G.2.1 a0 S0) H → va_D A (ce_X1 G.2.1 a0 S0) → va_S A s.heap H locs → decode cX1_knows pc = .ok (.ireturn, 1) → W p l e (headSpec wsX1_knows rm_X1_knows).room s m args below meth c H locs 0 0 (MQ below (QRo G (ce_X1 G.2.1 a0 S0) out A) args s 0 0 A) (F0 m pc ls [.int v]) := fun pc v H locs ls ho hn hP hD hS hd => W.zret (v := v) hx hb hr hn (fun t ht hW => ⟨⟨v, (), rfl, Option.some.inj ho, by rw [ht]; exact hP⟩, hS.F ht⟩) hS.2.2 hd
  generalize MQ below (QRo G (ce_X1 G.2.1 a0 S0) out A) args s 0 0 A = Q at fin ⊢
  have blk22 : f_X1_knows_b22 S0 = some out → ∀ (H : Heap) (locs : List Loc), va_P G.1 vwCl (ce_X1 G.2.1 a0 S0) H → va_D A (ce_X1 G.2.1 a0 S0) → va_S A s.heap H locs → ∀ (ls : Array Slot), lv_has ls 2 [] → W p l e (headSpec wsX1_knows rm_X1_knows).room s m args below meth c H locs 0 0 Q (F0 m 22 ls []) := by
    intro hf H locs hP hD hS ls hl
    rw [f_X1_knows_b22] at hf
    refine lv_iconst (v := 0) hx hb dX1_knows_22 (by decide) ?_
    exact fin _ _ _ _ _ hf rfl hP hD hS dX1_knows_23
  refine lv_iload_n hx hb dX1_knows_0 rfl (lv_at hl 1 rfl) ?_
  refine lv_if_lt (tgt := 22) hx hb dX1_knows_1 (by decide) (fun c1 => ?_) (fun c1 => ?_)
  · replace hf := ob_pos c1 hf
    exact blk22  hf _ _ hP hD hS _ (lv_sub hl [] rfl)
  · replace hf := ob_neg c1 hf
    refine lv_iload_n hx hb dX1_knows_4 rfl (lv_at hl 1 rfl) ?_
    refine lv_aload_n hx hb dX1_knows_5 rfl (lv_at hl 0 rfl) ?_
    refine va_get (D := G.1) (ci := 1) (v := .int S0.2.2.2.2.2.1) (C := RX1) (T := TX1) (N := 9) hx hb hts hinX1 hown hK hP 0 rfl rfl 5 (by decide) lk0 (fun _ h9 => h9) rfl dX1_knows_6 ?_
    refine lv_icmp_ge (tgt := 22) hx hb dX1_knows_9 (by decide) (fun c2 => ?_) (fun c2 => ?_)
    · replace hf := ob_pos c2 hf
      exact blk22  hf _ _ hP hD hS _ (lv_sub hl [] rfl)
    · replace hf := ob_neg c2 hf
      refine lv_iload_n hx hb dX1_knows_12 rfl (lv_at hl 1 rfl) ?_
      refine lv_bipush (v := 7) hx hb dX1_knows_13 (by decide) ?_
      refine lv_icmp_ge (tgt := 22) hx hb dX1_knows_15 (by decide) (fun c3 => ?_) (fun c3 => ?_)
      · replace hf := ob_pos c3 hf
        exact blk22  hf _ _ hP hD hS _ (lv_sub hl [] rfl)
      · replace hf := ob_neg c3 hf
        refine lv_iconst (v := 1) hx hb dX1_knows_18 (by decide) ?_
        refine lv_goto (tgt := 23) hx hb dX1_knows_19 (by decide) ?_
        exact fin _ _ _ _ _ hf rfl hP hD hS dX1_knows_23
abbrev rm_X1_turnOf : Room := { frames := 2, cells := 0, slots := 0, locals := 45 }
set_option maxHeartbeats 4000000 in
set_option maxRecDepth 100000 in
theorem c_X1_turnOf (l : Launch) (G : zG) (a0 : AT_X1) (sz : Nat) (S0 : ST_X1) (p1 : Int32) (p2 : Int32) (out : Int32) (hf : f_X1_turnOf S0 p1 p2 = some out) : Met l yX1_turnOf wsX1_turnOf rm_X1_turnOf (PcM G (ce_X1 G.2.1 a0 S0) [.ref a0.1, .int p1, .int p2] sz) (QRo G (ce_X1 G.2.1 a0 S0) out (va_A (ce_X1 G.2.1 a0 S0) sz)) 0 0 (va_A (ce_X1 G.2.1 a0 S0) sz) := by
  rw [f_X1_turnOf] at hf
  refine Met.ofW (cc := cX1_turnOf) (maxL := 3) (ret := (some .int)) (by decide) rfl ?_
  intro p e s m args below meth c s₁ B hml hv
  obtain ⟨hargs, hsz, hP, hK, hD0, hE⟩ := hv
  have hx := B.exec
  have hb := B.bytes
  have hr := B.returns
  have hts := atoms_spec (ws := wsX1_turnOf) B.pre
  have hown : s.vm.findClass RX1 = some m.cls := findClass_of_methodNamed B.named
  have hlocks := B.notSynchronized
  subst hsz
  have hD := hD0.self (sz := s.heap.size)
  generalize hAe : va_A (ce_X1 G.2.1 a0 S0) s.heap.size = A at hD hE ⊢
  have hA : ∀ q : Nat, s.heap.size ≤ q → A q := fun q h => by rw [← hAe]; exact Or.inr h
  have hS : va_S A s.heap s.heap [] := va_S.rf
  have hl := lv_entry ([.ref a0.1, .int p1, .int p2]) (n := 3) (Nat.le_of_ble_eq_true rfl)
  have hent : entryFrame m args 3 = F0 m 0 ((lg_sl ([.ref a0.1, .int p1, .int p2]) ++ List.replicate (3 - (lg_sl ([.ref a0.1, .int p1, .int p2])).length) Slot.unset).toArray) [] := by rw [hargs, lg_entry_eq]
  rw [hent]
  clear hent
  generalize (lg_sl ([.ref a0.1, .int p1, .int p2]) ++ List.replicate (3 - (lg_sl ([.ref a0.1, .int p1, .int p2])).length) Slot.unset).toArray = ls at hl ⊢
  have hl : lv_has ls 3 [(0, .ref a0.1), (1, .int p1), (2, .int p2)] := hl
  have lk0 := hts (Cond.fieldLink RX1 24 "EnginesOnList$Fleet" "turns" "[I") (List.mem_of_getElem? (i := 1) rfl)
  have hinX1 : ∀ w ∈ wsX10, w ∈ wsX1_turnOf := by decide +kernel
  have fin : ∀ (pc : Nat) (v : Int32) (H : Heap) (locs : List Loc) (ls : Array Slot), some v = some out → va_P G.1 vwCl (ce_X1 G.2.1 a0 S0) H → va_D A (ce_X1 G.2.1 a0 S0) → va_S A s.heap H locs → decode cX1_turnOf pc = .ok (.ireturn, 1) → W p l e (headSpec wsX1_turnOf rm_X1_turnOf).room s m args below meth c H locs 0 0 (MQ below (QRo G (ce_X1 G.2.1 a0 S0) out A) args s 0 0 A) (F0 m pc ls [.int v]) := fun pc v H locs ls ho hP hD hS hd => W.iret (v := v) hx hb hr (fun t ht hW => ⟨⟨v, (), rfl, Option.some.inj ho, by rw [ht]; exact hP⟩, hS.F ht⟩) hS.2.2 hd
  generalize MQ below (QRo G (ce_X1 G.2.1 a0 S0) out A) args s 0 0 A = Q at fin ⊢
  have blk32 : f_X1_turnOf_b32 S0 = some out → ∀ (H : Heap) (locs : List Loc), va_P G.1 vwCl (ce_X1 G.2.1 a0 S0) H → va_D A (ce_X1 G.2.1 a0 S0) → va_S A s.heap H locs → ∀ (ls : Array Slot), lv_has ls 3 [] → W p l e (headSpec wsX1_turnOf rm_X1_turnOf).room s m args below meth c H locs 0 0 Q (F0 m 32 ls []) := by
    intro hf H locs hP hD hS ls hl
    rw [f_X1_turnOf_b32] at hf
    refine lv_bipush (v := 9) hx hb dX1_turnOf_32 (by decide) ?_
    exact fin _ _ _ _ _ hf hP hD hS dX1_turnOf_34
  refine lv_aload_n hx hb dX1_turnOf_0 rfl (lv_at hl 0 rfl) ?_
  refine lv_iload_n hx hb dX1_turnOf_1 rfl (lv_at hl 1 rfl) ?_
  obtain ⟨r1, hr1, hf⟩ := ob_bind hf
  have hFc := va_free (wc := ce_X1 G.2.1 a0 S0) hD hS hA [0, 1, 2, 3, 4, 5] rfl
  refine zc_ro (va_runV (As := [.int p1]) (rest := []) ⟨hx, hb, hml, hown, hts⟩ (c_X1_knows l G a0 H.size S0 p1 _ hr1) (cwV 1 hts gX1_turnOf_X1_knows rfl rfl rfl (by decide +kernel) ⟨Nat.le_of_ble_eq_true rfl, Nat.le_of_ble_eq_true rfl⟩) ⟨PcM.blind, va_recv hK hP (ci := 1) (q0 := 0) rfl rfl, PcM.ok hP hD hK hE hS hFc⟩ rfl rfl hl.1 rfl (lv_room (Nat.le_of_ble_eq_true rfl)) dX1_turnOf_2 ⟨Nat.le_refl _, Nat.le_refl _⟩) hP hD hS hA [0, 1, 2, 3, 4, 5] rfl (fun H locs hP hS => ?_)
  refine lv_if_eq (tgt := 32) hx hb dX1_turnOf_5 (by decide) (fun c2 => ?_) (fun c2 => ?_)
  · replace hf := ob_pos c2 hf
    exact blk32  hf _ _ hP hD hS _ (lv_sub hl [] rfl)
  · replace hf := ob_neg c2 hf
    refine lv_iload_n hx hb dX1_turnOf_8 rfl (lv_at hl 2 rfl) ?_
    refine lv_if_lt (tgt := 32) hx hb dX1_turnOf_9 (by decide) (fun c3 => ?_) (fun c3 => ?_)
    · replace hf := ob_pos c3 hf
      exact blk32  hf _ _ hP hD hS _ (lv_sub hl [] rfl)
    · replace hf := ob_neg c3 hf
      refine lv_iload_n hx hb dX1_turnOf_12 rfl (lv_at hl 2 rfl) ?_
      refine lv_bipush (v := 7) hx hb dX1_turnOf_13 (by decide) ?_
      refine lv_icmp_ge (tgt := 32) hx hb dX1_turnOf_15 (by decide) (fun c4 => ?_) (fun c4 => ?_)
      · replace hf := ob_pos c4 hf
        exact blk32  hf _ _ hP hD hS _ (lv_sub hl [] rfl)
      · replace hf := ob_neg c4 hf
        refine lv_aload_n hx hb dX1_turnOf_18 rfl (lv_at hl 0 rfl) ?_
        refine va_get (D := G.1) (ci := 1) (v := .ref a0.2.2.2.2.2) (C := RX1) (T := TX1) (N := 9) hx hb hts hinX1 hown hK hP 0 rfl rfl 4 (by decide) lk0 (fun _ h9 => h9) rfl dX1_turnOf_19 ?_
        refine lv_iload_n hx hb dX1_turnOf_22 rfl (lv_at hl 1 rfl) ?_
        refine lv_bipush (v := 7) hx hb dX1_turnOf_23 (by decide) ?_
        refine lv_imul hx hb dX1_turnOf_25 ?_
        refine lv_iload_n hx hb dX1_turnOf_26 rfl (lv_at hl 2 rfl) ?_
        refine lv_iadd hx hb dX1_turnOf_27 ?_
        obtain ⟨hg5, hf⟩ := ob_guard hf
        refine va_iald hx hb hK hP 5 0 rfl rfl hg5 dX1_turnOf_28 ?_
        refine lv_goto (tgt := 34) hx hb dX1_turnOf_29 (by decide) ?_
        exact fin _ _ _ _ _ hf hP hD hS dX1_turnOf_34
abbrev rm_X1_placeOn : Room := { frames := 3, cells := 0, slots := 0, locals := 67 }
set_option maxHeartbeats 4000000 in
set_option maxRecDepth 100000 in
theorem c_X1_placeOn (l : Launch) (G : zG) (a0 : AT_X1) (sz : Nat) (S0 : ST_X1) (p1 : Int32) (p2 : Int32) (out : Int32) (hf : f_X1_placeOn S0 p1 p2 = some out) : Met l yX1_placeOn wsX1_placeOn rm_X1_placeOn (PcM G (ce_X1 G.2.1 a0 S0) [.ref a0.1, .int p1, .int p2] sz) (QRo G (ce_X1 G.2.1 a0 S0) out (va_A (ce_X1 G.2.1 a0 S0) sz)) 0 0 (va_A (ce_X1 G.2.1 a0 S0) sz) := by
  rw [f_X1_placeOn] at hf
  refine Met.ofW (cc := cX1_placeOn) (maxL := 7) (ret := (some .int)) (by decide) rfl ?_
  intro p e s m args below meth c s₁ B hml hv
  obtain ⟨hargs, hsz, hP, hK, hD0, hE⟩ := hv
  have hx := B.exec
  have hb := B.bytes
  have hr := B.returns
  have hts := atoms_spec (ws := wsX1_placeOn) B.pre
  have hown : s.vm.findClass RX1 = some m.cls := findClass_of_methodNamed B.named
  have hlocks := B.notSynchronized
  subst hsz
  have hD := hD0.self (sz := s.heap.size)
  generalize hAe : va_A (ce_X1 G.2.1 a0 S0) s.heap.size = A at hD hE ⊢
  have hA : ∀ q : Nat, s.heap.size ≤ q → A q := fun q h => by rw [← hAe]; exact Or.inr h
  have hS : va_S A s.heap s.heap [] := va_S.rf
  have hl := lv_entry ([.ref a0.1, .int p1, .int p2]) (n := 7) (Nat.le_of_ble_eq_true rfl)
  have hent : entryFrame m args 7 = F0 m 0 ((lg_sl ([.ref a0.1, .int p1, .int p2]) ++ List.replicate (7 - (lg_sl ([.ref a0.1, .int p1, .int p2])).length) Slot.unset).toArray) [] := by rw [hargs, lg_entry_eq]
  rw [hent]
  clear hent
  generalize (lg_sl ([.ref a0.1, .int p1, .int p2]) ++ List.replicate (7 - (lg_sl ([.ref a0.1, .int p1, .int p2])).length) Slot.unset).toArray = ls at hl ⊢
  have hl : lv_has ls 7 [(0, .ref a0.1), (1, .int p1), (2, .int p2)] := hl
  have lk0 := hts (Cond.fieldLink RX1 18 "EnginesOnList$Fleet" "figures" "[I") (List.mem_of_getElem? (i := 1) rfl)
  have lk1 := hts (Cond.fieldLink RX1 15 "EnginesOnList$Fleet" "kinds" "[I") (List.mem_of_getElem? (i := 2) rfl)
  have hinX1 : ∀ w ∈ wsX10, w ∈ wsX1_placeOn := by decide +kernel
  have fin : ∀ (pc : Nat) (v : Int32) (H : Heap) (locs : List Loc) (ls : Array Slot), some v = some out → va_P G.1 vwCl (ce_X1 G.2.1 a0 S0) H → va_D A (ce_X1 G.2.1 a0 S0) → va_S A s.heap H locs → decode cX1_placeOn pc = .ok (.ireturn, 1) → W p l e (headSpec wsX1_placeOn rm_X1_placeOn).room s m args below meth c H locs 0 0 (MQ below (QRo G (ce_X1 G.2.1 a0 S0) out A) args s 0 0 A) (F0 m pc ls [.int v]) := fun pc v H locs ls ho hP hD hS hd => W.iret (v := v) hx hb hr (fun t ht hW => ⟨⟨v, (), rfl, Option.some.inj ho, by rw [ht]; exact hP⟩, hS.F ht⟩) hS.2.2 hd
  generalize MQ below (QRo G (ce_X1 G.2.1 a0 S0) out A) args s 0 0 A = Q at fin ⊢
  have blk12 : f_X1_placeOn_b12 S0 = some out → ∀ (H : Heap) (locs : List Loc), va_P G.1 vwCl (ce_X1 G.2.1 a0 S0) H → va_D A (ce_X1 G.2.1 a0 S0) → va_S A s.heap H locs → ∀ (ls : Array Slot), lv_has ls 7 [] → W p l e (headSpec wsX1_placeOn rm_X1_placeOn).room s m args below meth c H locs 0 0 Q (F0 m 12 ls []) := by
    intro hf H locs hP hD hS ls hl
    rw [f_X1_placeOn_b12] at hf
    refine lv_bipush (v := 9) hx hb dX1_placeOn_12 (by decide) ?_
    exact fin _ _ _ _ _ hf hP hD hS dX1_placeOn_14
  have blk118 : ∀ (v6 : Int32), f_X1_placeOn_b118 S0 v6 = some out → ∀ (H : Heap) (locs : List Loc), va_P G.1 vwCl (ce_X1 G.2.1 a0 S0) H → va_D A (ce_X1 G.2.1 a0 S0) → va_S A s.heap H locs → ∀ (ls : Array Slot), lv_has ls 7 [(6, .int v6)] → W p l e (headSpec wsX1_placeOn rm_X1_placeOn).room s m args below meth c H locs 0 0 Q (F0 m 118 ls []) := by
    intro v6 hf H locs hP hD hS ls hl
    rw [f_X1_placeOn_b118] at hf
    refine lv_iload hx hb dX1_placeOn_118 (lv_at hl 0 rfl) ?_
    exact fin _ _ _ _ _ hf hP hD hS dX1_placeOn_120
  have blk169 : ∀ (v4 : Int32) (w1 : Int32), f_X1_placeOn_b169 S0 v4 w1 = some out → ∀ (H : Heap) (locs : List Loc), va_P G.1 vwCl (ce_X1 G.2.1 a0 S0) H → va_D A (ce_X1 G.2.1 a0 S0) → va_S A s.heap H locs → ∀ (ls : Array Slot), lv_has ls 7 [(4, .int v4)] → W p l e (headSpec wsX1_placeOn rm_X1_placeOn).room s m args below meth c H locs 0 0 Q (F0 m 169 ls [.int w1, .ref a0.1]) := by
    intro v4 w1 hf H locs hP hD hS ls hl
    rw [f_X1_placeOn_b169] at hf
    refine lv_iload hx hb dX1_placeOn_169 (lv_at hl 0 rfl) ?_
    obtain ⟨r1, hr1, hf⟩ := ob_bind hf
    have hFc := va_free (wc := ce_X1 G.2.1 a0 S0) hD hS hA [0, 1, 2, 3, 4, 5] rfl
    refine zc_ro (va_runV (As := [.int w1, .int v4]) (rest := []) ⟨hx, hb, hml, hown, hts⟩ (c_X1_turnOf l G a0 H.size S0 w1 v4 _ hr1) (cwV 2 hts gX1_placeOn_X1_turnOf rfl rfl rfl (by decide +kernel) ⟨Nat.le_of_ble_eq_true rfl, Nat.le_of_ble_eq_true rfl⟩) ⟨PcM.blind, va_recv hK hP (ci := 1) (q0 := 0) rfl rfl, PcM.ok hP hD hK hE hS hFc⟩ rfl rfl hl.1 rfl (lv_room (Nat.le_of_ble_eq_true rfl)) dX1_placeOn_171 ⟨Nat.le_refl _, Nat.le_refl _⟩) hP hD hS hA [0, 1, 2, 3, 4, 5] rfl (fun H locs hP hS => ?_)
    exact fin _ _ _ _ _ hf hP hD hS dX1_placeOn_174
  refine lv_aload_n hx hb dX1_placeOn_0 rfl (lv_at hl 0 rfl) ?_
  refine lv_iload_n hx hb dX1_placeOn_1 rfl (lv_at hl 1 rfl) ?_
  obtain ⟨r2, hr2, hf⟩ := ob_bind hf
  have hFc := va_free (wc := ce_X1 G.2.1 a0 S0) hD hS hA [0, 1, 2, 3, 4, 5] rfl
  refine zc_ro (va_runV (As := [.int p1]) (rest := []) ⟨hx, hb, hml, hown, hts⟩ (c_X1_knows l G a0 H.size S0 p1 _ hr2) (cwV 1 hts gX1_placeOn_X1_knows rfl rfl rfl (by decide +kernel) ⟨Nat.le_of_ble_eq_true rfl, Nat.le_of_ble_eq_true rfl⟩) ⟨PcM.blind, va_recv hK hP (ci := 1) (q0 := 0) rfl rfl, PcM.ok hP hD hK hE hS hFc⟩ rfl rfl hl.1 rfl (lv_room (Nat.le_of_ble_eq_true rfl)) dX1_placeOn_2 ⟨Nat.le_refl _, Nat.le_refl _⟩) hP hD hS hA [0, 1, 2, 3, 4, 5] rfl (fun H locs hP hS => ?_)
  refine lv_if_eq (tgt := 12) hx hb dX1_placeOn_5 (by decide) (fun c3 => ?_) (fun c3 => ?_)
  · replace hf := ob_pos c3 hf
    exact blk12  hf _ _ hP hD hS _ (lv_sub hl [] rfl)
  · replace hf := ob_neg c3 hf
    refine lv_iload_n hx hb dX1_placeOn_8 rfl (lv_at hl 2 rfl) ?_
    refine lv_if_ge (tgt := 15) hx hb dX1_placeOn_9 (by decide) (fun c4 => ?_) (fun c4 => ?_)
    · replace hf := ob_pos c4 hf
      refine lv_iload_n hx hb dX1_placeOn_15 rfl (lv_at hl 2 rfl) ?_
      refine lv_bipush (v := 7) hx hb dX1_placeOn_16 (by decide) ?_
      refine lv_idiv hx hb dX1_placeOn_18 (by decide) ?_
      refine lv_istore_n (lv' := [(3, .int (p2 / 7)), (0, .ref a0.1), (1, .int p1), (2, .int p2)]) hx hb dX1_placeOn_19 rfl hl (by decide) rfl (fun ls hl => ?_)
      refine lv_iload_n hx hb dX1_placeOn_20 rfl (lv_at hl 3 rfl) ?_
      refine lv_bipush (v := 7) hx hb dX1_placeOn_21 (by decide) ?_
      refine lv_irem hx hb dX1_placeOn_23 (by decide) ?_
      refine lv_istore (lv' := [(4, .int (p2 - p2 / 7 * 7)), (3, .int (p2 / 7)), (0, .ref a0.1), (1, .int p1), (2, .int p2)]) hx hb dX1_placeOn_24 hl (by decide) rfl (fun ls hl => ?_)
      refine lv_aload_n hx hb dX1_placeOn_26 rfl (lv_at hl 2 rfl) ?_
      refine va_get (D := G.1) (ci := 1) (v := .ref a0.2.2.2.1) (C := RX1) (T := TX1) (N := 9) hx hb hts hinX1 hown hK hP 0 rfl rfl 2 (by decide) lk0 (fun _ h9 => h9) rfl dX1_placeOn_27 ?_
      refine lv_iload_n hx hb dX1_placeOn_30 rfl (lv_at hl 3 rfl) ?_
      obtain ⟨hg5, hf⟩ := ob_guard hf
      refine va_iald hx hb hK hP 3 0 rfl rfl hg5 dX1_placeOn_31 ?_
      refine lv_istore (lv' := [(5, .int (S0.2.2.1 p1.toNatClampNeg)), (4, .int (p2 - p2 / 7 * 7)), (3, .int (p2 / 7)), (0, .ref a0.1), (1, .int p1), (2, .int p2)]) hx hb dX1_placeOn_32 hl (by decide) rfl (fun ls hl => ?_)
      refine lv_aload_n hx hb dX1_placeOn_34 rfl (lv_at hl 3 rfl) ?_
      refine lv_iload_n hx hb dX1_placeOn_35 rfl (lv_at hl 4 rfl) ?_
      refine lv_iload hx hb dX1_placeOn_36 (lv_at hl 1 rfl) ?_
      obtain ⟨r6, hr6, hf⟩ := ob_bind hf
      have hFc := va_free (wc := ce_X1 G.2.1 a0 S0) hD hS hA [0, 1, 2, 3, 4, 5] rfl
      refine zc_ro (va_runV (As := [.int p1, .int (p2 - p2 / 7 * 7)]) (rest := []) ⟨hx, hb, hml, hown, hts⟩ (c_X1_turnOf l G a0 H.size S0 p1 (p2 - p2 / 7 * 7) _ hr6) (cwV 2 hts gX1_placeOn_X1_turnOf rfl rfl rfl (by decide +kernel) ⟨Nat.le_of_ble_eq_true rfl, Nat.le_of_ble_eq_true rfl⟩) ⟨PcM.blind, va_recv hK hP (ci := 1) (q0 := 0) rfl rfl, PcM.ok hP hD hK hE hS hFc⟩ rfl rfl hl.1 rfl (lv_room (Nat.le_of_ble_eq_true rfl)) dX1_placeOn_38 ⟨Nat.le_refl _, Nat.le_refl _⟩) hP hD hS hA [0, 1, 2, 3, 4, 5] rfl (fun H locs hP hS => ?_)
      refine lv_istore (lv' := [(6, .int r6), (5, .int (S0.2.2.1 p1.toNatClampNeg)), (4, .int (p2 - p2 / 7 * 7)), (3, .int (p2 / 7)), (0, .ref a0.1), (1, .int p1), (2, .int p2)]) hx hb dX1_placeOn_41 hl (by decide) rfl (fun ls hl => ?_)
      refine lv_aload_n hx hb dX1_placeOn_43 rfl (lv_at hl 4 rfl) ?_
      refine va_get (D := G.1) (ci := 1) (v := .ref a0.2.2.1) (C := RX1) (T := TX1) (N := 9) hx hb hts hinX1 hown hK hP 0 rfl rfl 1 (by decide) lk1 (fun _ h9 => h9) rfl dX1_placeOn_44 ?_
      refine lv_iload_n hx hb dX1_placeOn_47 rfl (lv_at hl 5 rfl) ?_
      obtain ⟨hg7, hf⟩ := ob_guard hf
      refine va_iald hx hb hK hP 2 0 rfl rfl hg7 dX1_placeOn_48 ?_
      by_cases c8_0 : S0.2.1 p1.toNatClampNeg = 1
      · replace hf := ob_pos c8_0 hf
        refine lv_tableIn (x := S0.2.1 p1.toNatClampNeg) (off := 35) (tgt := 84) hx hb dX1_placeOn_49 (by rw [c8_0]; decide) (by rw [c8_0]; decide) (by rw [c8_0]; decide) (by decide) ?_
        refine lv_iload hx hb dX1_placeOn_84 (lv_at hl 2 rfl) ?_
        refine lv_iload hx hb dX1_placeOn_86 (lv_at hl 1 rfl) ?_
        refine lv_icmp_lt (tgt := 96) hx hb dX1_placeOn_88 (by decide) (fun c9 => ?_) (fun c9 => ?_)
        · replace hf := ob_pos c9 hf
          refine lv_iload hx hb dX1_placeOn_96 (lv_at hl 0 rfl) ?_
          exact fin _ _ _ _ _ hf hP hD hS dX1_placeOn_98
        · replace hf := ob_neg c9 hf
          refine lv_bipush (v := 9) hx hb dX1_placeOn_91 (by decide) ?_
          refine lv_goto (tgt := 98) hx hb dX1_placeOn_93 (by decide) ?_
          exact fin _ _ _ _ _ hf hP hD hS dX1_placeOn_98
      · replace hf := ob_neg c8_0 hf
        by_cases c8_1 : S0.2.1 p1.toNatClampNeg = 2
        · replace hf := ob_pos c8_1 hf
          refine lv_tableIn (x := S0.2.1 p1.toNatClampNeg) (off := 50) (tgt := 99) hx hb dX1_placeOn_49 (by rw [c8_1]; decide) (by rw [c8_1]; decide) (by rw [c8_1]; decide) (by decide) ?_
          refine lv_iload hx hb dX1_placeOn_99 (lv_at hl 1 rfl) ?_
          refine lv_if_lt (tgt := 118) hx hb dX1_placeOn_101 (by decide) (fun c10 => ?_) (fun c10 => ?_)
          · replace hf := ob_pos c10 hf
            exact blk118 _ hf _ _ hP hD hS _ (lv_sub hl [0] rfl)
          · replace hf := ob_neg c10 hf
            refine lv_iload_n hx hb dX1_placeOn_104 rfl (lv_at hl 3 rfl) ?_
            refine lv_iload hx hb dX1_placeOn_105 (lv_at hl 1 rfl) ?_
            refine lv_iconst (v := 2) hx hb dX1_placeOn_107 (by decide) ?_
            refine lv_iadd hx hb dX1_placeOn_108 ?_
            obtain ⟨hg11, hf⟩ := ob_guard hf
            refine lv_irem hx hb dX1_placeOn_109 hg11 ?_
            refine lv_if_ne (tgt := 118) hx hb dX1_placeOn_110 (by decide) (fun c12 => ?_) (fun c12 => ?_)
            · replace hf := ob_neg c12 hf
              exact blk118 _ hf _ _ hP hD hS _ (lv_sub hl [0] rfl)
            · replace hf := ob_pos c12 hf
              refine lv_bipush (v := 9) hx hb dX1_placeOn_113 (by decide) ?_
              refine lv_goto (tgt := 120) hx hb dX1_placeOn_115 (by decide) ?_
              exact fin _ _ _ _ _ hf hP hD hS dX1_placeOn_120
        · replace hf := ob_neg c8_1 hf
          by_cases c8_2 : S0.2.1 p1.toNatClampNeg = 3
          · replace hf := ob_pos c8_2 hf
            refine lv_tableIn (x := S0.2.1 p1.toNatClampNeg) (off := 72) (tgt := 121) hx hb dX1_placeOn_49 (by rw [c8_2]; decide) (by rw [c8_2]; decide) (by rw [c8_2]; decide) (by decide) ?_
            refine lv_iload hx hb dX1_placeOn_121 (lv_at hl 1 rfl) ?_
            refine lv_iconst (v := 5) hx hb dX1_placeOn_123 (by decide) ?_
            refine lv_irem hx hb dX1_placeOn_124 (by decide) ?_
            exact fin _ _ _ _ _ hf hP hD hS dX1_placeOn_125
          · replace hf := ob_neg c8_2 hf
            by_cases c8_3 : S0.2.1 p1.toNatClampNeg = 4
            · replace hf := ob_pos c8_3 hf
              refine lv_tableIn (x := S0.2.1 p1.toNatClampNeg) (off := 77) (tgt := 126) hx hb dX1_placeOn_49 (by rw [c8_3]; decide) (by rw [c8_3]; decide) (by rw [c8_3]; decide) (by decide) ?_
              refine lv_iload_n hx hb dX1_placeOn_126 rfl (lv_at hl 3 rfl) ?_
              refine lv_iload hx hb dX1_placeOn_127 (lv_at hl 1 rfl) ?_
              refine lv_icmp_ge (tgt := 137) hx hb dX1_placeOn_129 (by decide) (fun c13 => ?_) (fun c13 => ?_)
              · replace hf := ob_pos c13 hf
                refine lv_bipush (v := 9) hx hb dX1_placeOn_137 (by decide) ?_
                exact fin _ _ _ _ _ hf hP hD hS dX1_placeOn_139
              · replace hf := ob_neg c13 hf
                refine lv_iload hx hb dX1_placeOn_132 (lv_at hl 0 rfl) ?_
                refine lv_goto (tgt := 139) hx hb dX1_placeOn_134 (by decide) ?_
                exact fin _ _ _ _ _ hf hP hD hS dX1_placeOn_139
            · replace hf := ob_neg c8_3 hf
              by_cases c8_4 : S0.2.1 p1.toNatClampNeg = 5
              · replace hf := ob_pos c8_4 hf
                refine lv_tableIn (x := S0.2.1 p1.toNatClampNeg) (off := 91) (tgt := 140) hx hb dX1_placeOn_49 (by rw [c8_4]; decide) (by rw [c8_4]; decide) (by rw [c8_4]; decide) (by decide) ?_
                refine lv_iload_n hx hb dX1_placeOn_140 rfl (lv_at hl 3 rfl) ?_
                refine lv_iconst (v := 2) hx hb dX1_placeOn_141 (by decide) ?_
                refine lv_irem hx hb dX1_placeOn_142 (by decide) ?_
                refine lv_if_ne (tgt := 151) hx hb dX1_placeOn_143 (by decide) (fun c14 => ?_) (fun c14 => ?_)
                · replace hf := ob_neg c14 hf
                  refine lv_aload_n hx hb dX1_placeOn_151 rfl (lv_at hl 4 rfl) ?_
                  refine lv_aload_n hx hb dX1_placeOn_152 rfl (lv_at hl 4 rfl) ?_
                  refine lv_iload_n hx hb dX1_placeOn_153 rfl (lv_at hl 5 rfl) ?_
                  refine lv_iconst (v := 1) hx hb dX1_placeOn_154 (by decide) ?_
                  refine lv_iadd hx hb dX1_placeOn_155 ?_
                  obtain ⟨r15, hr15, hf⟩ := ob_bind hf
                  have hFc := va_free (wc := ce_X1 G.2.1 a0 S0) hD hS hA [0, 1, 2, 3, 4, 5] rfl
                  refine zc_ro (va_runV (As := [.int (p1 + 1)]) (rest := [.ref a0.1]) ⟨hx, hb, hml, hown, hts⟩ (c_X1_knows l G a0 H.size S0 (p1 + 1) _ hr15) (cwV 1 hts gX1_placeOn_X1_knows rfl rfl rfl (by decide +kernel) ⟨Nat.le_of_ble_eq_true rfl, Nat.le_of_ble_eq_true rfl⟩) ⟨PcM.blind, va_recv hK hP (ci := 1) (q0 := 0) rfl rfl, PcM.ok hP hD hK hE hS hFc⟩ rfl rfl hl.1 rfl (lv_room (Nat.le_of_ble_eq_true rfl)) dX1_placeOn_156 ⟨Nat.le_refl _, Nat.le_refl _⟩) hP hD hS hA [0, 1, 2, 3, 4, 5] rfl (fun H locs hP hS => ?_)
                  refine lv_if_eq (tgt := 168) hx hb dX1_placeOn_159 (by decide) (fun c16 => ?_) (fun c16 => ?_)
                  · replace hf := ob_pos c16 hf
                    refine lv_iconst (v := 0) hx hb dX1_placeOn_168 (by decide) ?_
                    exact blk169 _ _ hf _ _ hP hD hS _ (lv_sub hl [2] rfl)
                  · replace hf := ob_neg c16 hf
                    refine lv_iload_n hx hb dX1_placeOn_162 rfl (lv_at hl 5 rfl) ?_
                    refine lv_iconst (v := 1) hx hb dX1_placeOn_163 (by decide) ?_
                    refine lv_iadd hx hb dX1_placeOn_164 ?_
                    refine lv_goto (tgt := 169) hx hb dX1_placeOn_165 (by decide) ?_
                    exact blk169 _ _ hf _ _ hP hD hS _ (lv_sub hl [2] rfl)
                · replace hf := ob_pos c14 hf
                  refine lv_iload hx hb dX1_placeOn_146 (lv_at hl 0 rfl) ?_
                  refine lv_goto (tgt := 174) hx hb dX1_placeOn_148 (by decide) ?_
                  exact fin _ _ _ _ _ hf hP hD hS dX1_placeOn_174
              · replace hf := ob_neg c8_4 hf
                have tc8_0 := lv_neT (a := 1) c8_0 rfl
                have tc8_1 := lv_neT (a := 2) c8_1 rfl
                have tc8_2 := lv_neT (a := 3) c8_2 rfl
                have tc8_3 := lv_neT (a := 4) c8_3 rfl
                have tc8_4 := lv_neT (a := 5) c8_4 rfl
                refine lv_tableOut (x := S0.2.1 p1.toNatClampNeg) (tgt := 175) hx hb dX1_placeOn_49 (by omega) (by decide) ?_
                refine lv_iload hx hb dX1_placeOn_175 (lv_at hl 0 rfl) ?_
                exact fin _ _ _ _ _ hf hP hD hS dX1_placeOn_177
    · replace hf := ob_neg c4 hf
      exact blk12  hf _ _ hP hD hS _ (lv_sub hl [] rfl)
abbrev rm_X1_bit : Room := { frames := 2, cells := 0, slots := 0, locals := 45 }
set_option maxHeartbeats 4000000 in
set_option maxRecDepth 100000 in
theorem c_X1_bit (l : Launch) (G : zG) (a0 : AT_X1) (sz : Nat) (S0 : ST_X1) (p1 : Int32) (out : Int32) (hf : f_X1_bit S0 p1 = some out) : Met l yX1_bit wsX1_bit rm_X1_bit (PcM G (ce_X1 G.2.1 a0 S0) [.ref a0.1, .int p1] sz) (QRo G (ce_X1 G.2.1 a0 S0) out (va_A (ce_X1 G.2.1 a0 S0) sz)) 0 0 (va_A (ce_X1 G.2.1 a0 S0) sz) := by
  rw [f_X1_bit] at hf
  refine Met.ofW (cc := cX1_bit) (maxL := 2) (ret := (some .int)) (by decide) rfl ?_
  intro p e s m args below meth c s₁ B hml hv
  obtain ⟨hargs, hsz, hP, hK, hD0, hE⟩ := hv
  have hx := B.exec
  have hb := B.bytes
  have hr := B.returns
  have hts := atoms_spec (ws := wsX1_bit) B.pre
  have hown : s.vm.findClass RX1 = some m.cls := findClass_of_methodNamed B.named
  have hlocks := B.notSynchronized
  subst hsz
  have hD := hD0.self (sz := s.heap.size)
  generalize hAe : va_A (ce_X1 G.2.1 a0 S0) s.heap.size = A at hD hE ⊢
  have hA : ∀ q : Nat, s.heap.size ≤ q → A q := fun q h => by rw [← hAe]; exact Or.inr h
  have hS : va_S A s.heap s.heap [] := va_S.rf
  have hl := lv_entry ([.ref a0.1, .int p1]) (n := 2) (Nat.le_of_ble_eq_true rfl)
  have hent : entryFrame m args 2 = F0 m 0 ((lg_sl ([.ref a0.1, .int p1]) ++ List.replicate (2 - (lg_sl ([.ref a0.1, .int p1])).length) Slot.unset).toArray) [] := by rw [hargs, lg_entry_eq]
  rw [hent]
  clear hent
  generalize (lg_sl ([.ref a0.1, .int p1]) ++ List.replicate (2 - (lg_sl ([.ref a0.1, .int p1])).length) Slot.unset).toArray = ls at hl ⊢
  have hl : lv_has ls 2 [(0, .ref a0.1), (1, .int p1)] := hl
  have fin : ∀ (pc : Nat) (v : Int32) (H : Heap) (locs : List Loc) (ls : Array Slot), some v = some out → va_P G.1 vwCl (ce_X1 G.2.1 a0 S0) H → va_D A (ce_X1 G.2.1 a0 S0) → va_S A s.heap H locs → decode cX1_bit pc = .ok (.ireturn, 1) → W p l e (headSpec wsX1_bit rm_X1_bit).room s m args below meth c H locs 0 0 (MQ below (QRo G (ce_X1 G.2.1 a0 S0) out A) args s 0 0 A) (F0 m pc ls [.int v]) := fun pc v H locs ls ho hP hD hS hd => W.iret (v := v) hx hb hr (fun t ht hW => ⟨⟨v, (), rfl, Option.some.inj ho, by rw [ht]; exact hP⟩, hS.F ht⟩) hS.2.2 hd
  generalize MQ below (QRo G (ce_X1 G.2.1 a0 S0) out A) args s 0 0 A = Q at fin ⊢
  refine lv_aload_n hx hb dX1_bit_0 rfl (lv_at hl 0 rfl) ?_
  refine lv_iload_n hx hb dX1_bit_1 rfl (lv_at hl 1 rfl) ?_
  obtain ⟨r1, hr1, hf⟩ := ob_bind hf
  have hFc := va_free (wc := ce_X1 G.2.1 a0 S0) hD hS hA [0, 1, 2, 3, 4, 5] rfl
  refine zc_ro (va_runV (As := [.int p1]) (rest := []) ⟨hx, hb, hml, hown, hts⟩ (c_X1_knows l G a0 H.size S0 p1 _ hr1) (cwV 1 hts gX1_bit_X1_knows rfl rfl rfl (by decide +kernel) ⟨Nat.le_of_ble_eq_true rfl, Nat.le_of_ble_eq_true rfl⟩) ⟨PcM.blind, va_recv hK hP (ci := 1) (q0 := 0) rfl rfl, PcM.ok hP hD hK hE hS hFc⟩ rfl rfl hl.1 rfl (lv_room (Nat.le_of_ble_eq_true rfl)) dX1_bit_2 ⟨Nat.le_refl _, Nat.le_refl _⟩) hP hD hS hA [0, 1, 2, 3, 4, 5] rfl (fun H locs hP hS => ?_)
  refine lv_if_eq (tgt := 14) hx hb dX1_bit_5 (by decide) (fun c2 => ?_) (fun c2 => ?_)
  · replace hf := ob_pos c2 hf
    refine lv_iconst (v := 0) hx hb dX1_bit_14 (by decide) ?_
    exact fin _ _ _ _ _ hf hP hD hS dX1_bit_15
  · replace hf := ob_neg c2 hf
    refine lv_iconst (v := 1) hx hb dX1_bit_8 (by decide) ?_
    refine lv_iload_n hx hb dX1_bit_9 rfl (lv_at hl 1 rfl) ?_
    refine lv_ishl hx hb dX1_bit_10 ?_
    refine lv_goto (tgt := 15) hx hb dX1_bit_11 (by decide) ?_
    exact fin _ _ _ _ _ hf hP hD hS dX1_bit_15
abbrev rm_X1_passing : Room := { frames := 4, cells := 0, slots := 0, locals := 93 }
set_option maxHeartbeats 4000000 in
set_option maxRecDepth 100000 in
theorem c_X1_passing (l : Launch) (G : zG) (a0 : AT_X1) (sz : Nat) (S0 : ST_X1) (p1 : Int32) (p2 : Int32) (out : Int32) (hf : f_X1_passing S0 p1 p2 = some out) : Met l yX1_passing wsX1_passing rm_X1_passing (PcM G (ce_X1 G.2.1 a0 S0) [.ref a0.1, .int p1, .int p2] sz) (QRo G (ce_X1 G.2.1 a0 S0) out (va_A (ce_X1 G.2.1 a0 S0) sz)) 0 0 (va_A (ce_X1 G.2.1 a0 S0) sz) := by
  rw [f_X1_passing] at hf
  refine Met.ofW (cc := cX1_passing) (maxL := 5) (ret := (some .int)) (by decide) rfl ?_
  intro p e s m args below meth c s₁ B hml hv
  obtain ⟨hargs, hsz, hP, hK, hD0, hE⟩ := hv
  have hx := B.exec
  have hb := B.bytes
  have hr := B.returns
  have hts := atoms_spec (ws := wsX1_passing) B.pre
  have hown : s.vm.findClass RX1 = some m.cls := findClass_of_methodNamed B.named
  have hlocks := B.notSynchronized
  subst hsz
  have hD := hD0.self (sz := s.heap.size)
  generalize hAe : va_A (ce_X1 G.2.1 a0 S0) s.heap.size = A at hD hE ⊢
  have hA : ∀ q : Nat, s.heap.size ≤ q → A q := fun q h => by rw [← hAe]; exact Or.inr h
  have hS : va_S A s.heap s.heap [] := va_S.rf
  have hl := lv_entry ([.ref a0.1, .int p1, .int p2]) (n := 5) (Nat.le_of_ble_eq_true rfl)
  have hent : entryFrame m args 5 = F0 m 0 ((lg_sl ([.ref a0.1, .int p1, .int p2]) ++ List.replicate (5 - (lg_sl ([.ref a0.1, .int p1, .int p2])).length) Slot.unset).toArray) [] := by rw [hargs, lg_entry_eq]
  rw [hent]
  clear hent
  generalize (lg_sl ([.ref a0.1, .int p1, .int p2]) ++ List.replicate (5 - (lg_sl ([.ref a0.1, .int p1, .int p2])).length) Slot.unset).toArray = ls at hl ⊢
  have hl : lv_has ls 5 [(0, .ref a0.1), (1, .int p1), (2, .int p2)] := hl
  have lk0 := hts (Cond.fieldLink RX1 33 "EnginesOnList$Fleet" "size" "I") (List.mem_of_getElem? (i := 1) rfl)
  have hinX1 : ∀ w ∈ wsX10, w ∈ wsX1_passing := by decide +kernel
  have fin : ∀ (pc : Nat) (v : Int32) (H : Heap) (locs : List Loc) (ls : Array Slot), some v = some out → va_P G.1 vwCl (ce_X1 G.2.1 a0 S0) H → va_D A (ce_X1 G.2.1 a0 S0) → va_S A s.heap H locs → decode cX1_passing pc = .ok (.ireturn, 1) → W p l e (headSpec wsX1_passing rm_X1_passing).room s m args below meth c H locs 0 0 (MQ below (QRo G (ce_X1 G.2.1 a0 S0) out A) args s 0 0 A) (F0 m pc ls [.int v]) := fun pc v H locs ls ho hP hD hS hd => W.iret (v := v) hx hb hr (fun t ht hW => ⟨⟨v, (), rfl, Option.some.inj ho, by rw [ht]; exact hP⟩, hS.F ht⟩) hS.2.2 hd
  generalize MQ below (QRo G (ce_X1 G.2.1 a0 S0) out A) args s 0 0 A = Q at fin ⊢
  have blk5 : ∀ (fu5 : Nat), ∀ (v1 : Int32) (v2 : Int32) (v3 : Int32) (v4 : Int32), f_X1_passing_b5 S0 fu5 v1 v2 v3 v4 = some out → ∀ (H : Heap) (locs : List Loc), va_P G.1 vwCl (ce_X1 G.2.1 a0 S0) H → va_D A (ce_X1 G.2.1 a0 S0) → va_S A s.heap H locs → ∀ (ls : Array Slot), lv_has ls 5 [(0, .ref a0.1), (1, .int v1), (2, .int v2), (3, .int v3), (4, .int v4)] → W p l e (headSpec wsX1_passing rm_X1_passing).room s m args below meth c H locs 0 0 Q (F0 m 5 ls []) := by
    intro fu5
    induction fu5 with
    | zero => intro v1 v2 v3 v4 hf; exact ob_none hf
    | succ fu5 ih5 =>
      intro v1 v2 v3 v4 hf H locs hP hD hS ls hl
      rw [f_X1_passing_b5] at hf
      have blk34 : ∀ (v1 : Int32) (v2 : Int32) (v3 : Int32) (v4 : Int32), f_X1_passing_b34 S0 (f_X1_passing_b5 S0 fu5) v1 v2 v3 v4 = some out → ∀ (H : Heap) (locs : List Loc), va_P G.1 vwCl (ce_X1 G.2.1 a0 S0) H → va_D A (ce_X1 G.2.1 a0 S0) → va_S A s.heap H locs → ∀ (ls : Array Slot), lv_has ls 5 [(0, .ref a0.1), (1, .int v1), (2, .int v2), (3, .int v3), (4, .int v4)] → W p l e (headSpec wsX1_passing rm_X1_passing).room s m args below meth c H locs 0 0 Q (F0 m 34 ls []) := by
        intro v1 v2 v3 v4 hf H locs hP hD hS ls hl
        rw [f_X1_passing_b34] at hf
        refine lv_iinc (v := v4 + 1) (lv' := [(4, .int (v4 + 1)), (0, .ref a0.1), (1, .int v1), (2, .int v2), (3, .int v3)]) hx hb dX1_passing_34 hl (k := 4) rfl rfl (by decide) rfl (fun ls hl => ?_)
        refine lv_goto (tgt := 5) hx hb dX1_passing_37 (by decide) ?_
        exact ih5 _ _ _ _ hf _ _ hP hD hS _ (lv_sub hl [1, 2, 3, 4, 0] rfl)
      refine lv_iload hx hb dX1_passing_5 (lv_at hl 4 rfl) ?_
      refine lv_aload_n hx hb dX1_passing_7 rfl (lv_at hl 0 rfl) ?_
      refine va_get (D := G.1) (ci := 1) (v := .int S0.2.2.2.2.2.1) (C := RX1) (T := TX1) (N := 9) hx hb hts hinX1 hown hK hP 0 rfl rfl 5 (by decide) lk0 (fun _ h9 => h9) rfl dX1_passing_8 ?_
      refine lv_icmp_ge (tgt := 40) hx hb dX1_passing_11 (by decide) (fun c1 => ?_) (fun c1 => ?_)
      · replace hf := ob_pos c1 hf
        refine lv_iload_n hx hb dX1_passing_40 rfl (lv_at hl 3 rfl) ?_
        exact fin _ _ _ _ _ hf hP hD hS dX1_passing_41
      · replace hf := ob_neg c1 hf
        refine lv_aload_n hx hb dX1_passing_14 rfl (lv_at hl 0 rfl) ?_
        refine lv_iload hx hb dX1_passing_15 (lv_at hl 4 rfl) ?_
        refine lv_iload_n hx hb dX1_passing_17 rfl (lv_at hl 2 rfl) ?_
        obtain ⟨r2, hr2, hf⟩ := ob_bind hf
        have hFc := va_free (wc := ce_X1 G.2.1 a0 S0) hD hS hA [0, 1, 2, 3, 4, 5] rfl
        refine zc_ro (va_runV (As := [.int v4, .int v2]) (rest := []) ⟨hx, hb, hml, hown, hts⟩ (c_X1_placeOn l G a0 H.size S0 v4 v2 _ hr2) (cwV 2 hts gX1_passing_X1_placeOn rfl rfl rfl (by decide +kernel) ⟨Nat.le_of_ble_eq_true rfl, Nat.le_of_ble_eq_true rfl⟩) ⟨PcM.blind, va_recv hK hP (ci := 1) (q0 := 0) rfl rfl, PcM.ok hP hD hK hE hS hFc⟩ rfl rfl hl.1 rfl (lv_room (Nat.le_of_ble_eq_true rfl)) dX1_passing_18 ⟨Nat.le_refl _, Nat.le_refl _⟩) hP hD hS hA [0, 1, 2, 3, 4, 5] rfl (fun H locs hP hS => ?_)
        refine lv_iload_n hx hb dX1_passing_21 rfl (lv_at hl 1 rfl) ?_
        refine lv_icmp_ne (tgt := 34) hx hb dX1_passing_22 (by decide) (fun c3 => ?_) (fun c3 => ?_)
        · replace hf := ob_neg c3 hf
          exact blk34 _ _ _ _ hf _ _ hP hD hS _ (lv_sub hl [0, 1, 2, 3, 4] rfl)
        · replace hf := ob_pos c3 hf
          refine lv_iload_n hx hb dX1_passing_25 rfl (lv_at hl 3 rfl) ?_
          refine lv_aload_n hx hb dX1_passing_26 rfl (lv_at hl 0 rfl) ?_
          refine lv_iload hx hb dX1_passing_27 (lv_at hl 4 rfl) ?_
          obtain ⟨r4, hr4, hf⟩ := ob_bind hf
          have hFc := va_free (wc := ce_X1 G.2.1 a0 S0) hD hS hA [0, 1, 2, 3, 4, 5] rfl
          refine zc_ro (va_runV (As := [.int v4]) (rest := [.int v3]) ⟨hx, hb, hml, hown, hts⟩ (c_X1_bit l G a0 H.size S0 v4 _ hr4) (cwV 1 hts gX1_passing_X1_bit rfl rfl rfl (by decide +kernel) ⟨Nat.le_of_ble_eq_true rfl, Nat.le_of_ble_eq_true rfl⟩) ⟨PcM.blind, va_recv hK hP (ci := 1) (q0 := 0) rfl rfl, PcM.ok hP hD hK hE hS hFc⟩ rfl rfl hl.1 rfl (lv_room (Nat.le_of_ble_eq_true rfl)) dX1_passing_29 ⟨Nat.le_refl _, Nat.le_refl _⟩) hP hD hS hA [0, 1, 2, 3, 4, 5] rfl (fun H locs hP hS => ?_)
          refine lv_ior hx hb dX1_passing_32 ?_
          refine lv_istore_n (lv' := [(3, .int (v3 ||| r4)), (0, .ref a0.1), (1, .int v1), (2, .int v2), (4, .int v4)]) hx hb dX1_passing_33 rfl hl (by decide) rfl (fun ls hl => ?_)
          exact blk34 _ _ _ _ hf _ _ hP hD hS _ (lv_sub hl [1, 2, 3, 0, 4] rfl)
  refine lv_iconst (v := 0) hx hb dX1_passing_0 (by decide) ?_
  refine lv_istore_n (lv' := [(3, .int 0), (0, .ref a0.1), (1, .int p1), (2, .int p2)]) hx hb dX1_passing_1 rfl hl (by decide) rfl (fun ls hl => ?_)
  refine lv_iconst (v := 0) hx hb dX1_passing_2 (by decide) ?_
  refine lv_istore (lv' := [(4, .int 0), (3, .int 0), (0, .ref a0.1), (1, .int p1), (2, .int p2)]) hx hb dX1_passing_3 hl (by decide) rfl (fun ls hl => ?_)
  exact blk5 4096 _ _ _ _ hf _ _ hP hD hS _ (lv_sub hl [2, 3, 4, 1, 0] rfl)
