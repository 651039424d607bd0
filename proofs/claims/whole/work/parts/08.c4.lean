abbrev rm_X6_refuse : Room := { frames := 1, cells := 0, slots := 0, locals := 24 }
set_option maxHeartbeats 4000000 in
set_option maxRecDepth 100000 in
theorem c_X6_refuse (l : Launch) (G : zG) (a0 : AT_X6) (sz : Nat) (S0 : ST_X6) (p1 : Int32) (out : Int32 × ST_X6) (hf : f_X6_refuse S0 p1 = some out) : Met l yX6_refuse wsX6_refuse rm_X6_refuse (PcM G (ce_X6 G.2.1 a0 S0) [.ref a0.1, .int p1] sz) (QWr G (fun u => ce_X6 G.2.1 a0 u) out (va_A (ce_X6 G.2.1 a0 S0) sz)) 0 0 (va_A (ce_X6 G.2.1 a0 S0) sz) := by
  rw [f_X6_refuse] at hf
  refine Met.ofW (cc := cX6_refuse) (maxL := 2) (ret := (some .int)) (by decide) rfl ?_
  intro p e s m args below meth c s₁ B hml hv
  obtain ⟨hargs, hsz, hP, hK, hD0, hE⟩ := hv
  have hx := B.exec
  have hb := B.bytes
  have hr := B.returns
  have hts := atoms_spec (ws := wsX6_refuse) B.pre
  have hown : s.vm.findClass RX6 = some m.cls := findClass_of_methodNamed B.named
  have hlocks := B.notSynchronized
  subst hsz
  have hD := hD0.self (sz := s.heap.size)
  generalize hAe : va_A (ce_X6 G.2.1 a0 S0) s.heap.size = A at hD hE ⊢
  have hA : ∀ q : Nat, s.heap.size ≤ q → A q := fun q h => by rw [← hAe]; exact Or.inr h
  have hS : va_S A s.heap s.heap [] := va_S.rf
  have hl := lv_entry ([.ref a0.1, .int p1]) (n := 2) (Nat.le_of_ble_eq_true rfl)
  have hent : entryFrame m args 2 = F0 m 0 ((lg_sl ([.ref a0.1, .int p1]) ++ List.replicate (2 - (lg_sl ([.ref a0.1, .int p1])).length) Slot.unset).toArray) [] := by rw [hargs, lg_entry_eq]
  rw [hent]
  clear hent
  generalize (lg_sl ([.ref a0.1, .int p1]) ++ List.replicate (2 - (lg_sl ([.ref a0.1, .int p1])).length) Slot.unset).toArray = ls at hl ⊢
  have hl : lv_has ls 2 [(0, .ref a0.1), (1, .int p1)] := hl
  have lk0 := hts (Cond.fieldLink RX6 7 "EnginesOnListModel" "refusals" "[I") (List.mem_of_getElem? (i := 1) rfl)
  have hinX6 : ∀ w ∈ wsX60, w ∈ wsX6_refuse := by decide +kernel
  have fin : ∀ (pc : Nat) (v : Int32) (u : ST_X6) (H : Heap) (locs : List Loc) (ls : Array Slot), some (v, u) = some out → va_P G.1 vwCl (ce_X6 G.2.1 a0 u) H → va_D A (ce_X6 G.2.1 a0 u) → va_S A s.heap H locs → decode cX6_refuse pc = .ok (.ireturn, 1) → W p l e (headSpec wsX6_refuse rm_X6_refuse).room s m args below meth c H locs 0 0 (MQ below (QWr G (fun u => ce_X6 G.2.1 a0 u) out A) args s 0 0 A) (F0 m pc ls [.int v]) := fun pc v u H locs ls ho hP hD hS hd => W.iret (v := v) hx hb hr (fun t ht hW => ⟨⟨v, u, rfl, ob_pair ho, by first | (rw [ht]; exact hP) | (dsimp only; rw [ht]; exact hP), hD⟩, hS.F ht⟩) hS.2.2 hd
  generalize MQ below (QWr G (fun u => ce_X6 G.2.1 a0 u) out A) args s 0 0 A = Q at fin ⊢
  have go : ∀ (H : Heap) (locs : List Loc), va_P G.1 vwCl (ce_X6 G.2.1 a0 S0) H → va_D A (ce_X6 G.2.1 a0 S0) → va_S A s.heap H locs → ∀ (ls : Array Slot), lv_has ls 2 [(0, .ref a0.1), (1, .int p1)] → W p l e (headSpec wsX6_refuse rm_X6_refuse).room s m args below meth c H locs 0 0 Q (F0 m 0 ls []) := by
    intro H locs hP hD hS ls hl
    refine lv_aload_n hx hb dX6_refuse_0 rfl (lv_at hl 0 rfl) ?_
    refine va_get (D := G.1) (ci := 6) (v := .ref a0.2.1) (C := RX6) (T := TX6) (N := 14) hx hb hts hinX6 hown hK hP 0 rfl rfl 0 (by decide) lk0 (fun _ h9 => h9) rfl dX6_refuse_1 ?_
    refine lv_iload_n hx hb dX6_refuse_4 rfl (lv_at hl 1 rfl) ?_
    refine lv_ineg hx hb dX6_refuse_5 ?_
    refine lv_dup2_11 hx hb dX6_refuse_6 rfl rfl ?_
    obtain ⟨hg1, hf⟩ := ob_guard hf
    refine va_iald hx hb hK hP 1 0 rfl rfl hg1 dX6_refuse_7 ?_
    refine lv_iconst (v := 1) hx hb dX6_refuse_8 (by decide) ?_
    refine lv_iadd hx hb dX6_refuse_9 ?_
    obtain ⟨hg2, hf⟩ := ob_guard hf
    refine va_iast hx hb hK hP hD hS 1 0 rfl rfl hg2 dX6_refuse_10 (fun H locs hP hD hS => ?_)
    have hP : va_P G.1 vwCl (ce_X6 G.2.1 a0 ((upd S0.1 ((-p1).toNatClampNeg) ((S0.1 (-p1).toNatClampNeg) + 1)), S0.2.1, S0.2.2.1, S0.2.2.2.1, S0.2.2.2.2.1, S0.2.2.2.2.2.1, S0.2.2.2.2.2.2.1, S0.2.2.2.2.2.2.2.1, S0.2.2.2.2.2.2.2.2.1, S0.2.2.2.2.2.2.2.2.2.1, S0.2.2.2.2.2.2.2.2.2.2.1, S0.2.2.2.2.2.2.2.2.2.2.2.1, S0.2.2.2.2.2.2.2.2.2.2.2.2.1, S0.2.2.2.2.2.2.2.2.2.2.2.2.2)) H := hP
    have hD : va_D A (ce_X6 G.2.1 a0 ((upd S0.1 ((-p1).toNatClampNeg) ((S0.1 (-p1).toNatClampNeg) + 1)), S0.2.1, S0.2.2.1, S0.2.2.2.1, S0.2.2.2.2.1, S0.2.2.2.2.2.1, S0.2.2.2.2.2.2.1, S0.2.2.2.2.2.2.2.1, S0.2.2.2.2.2.2.2.2.1, S0.2.2.2.2.2.2.2.2.2.1, S0.2.2.2.2.2.2.2.2.2.2.1, S0.2.2.2.2.2.2.2.2.2.2.2.1, S0.2.2.2.2.2.2.2.2.2.2.2.2.1, S0.2.2.2.2.2.2.2.2.2.2.2.2.2)) := hD
    refine lv_iload_n hx hb dX6_refuse_11 rfl (lv_at hl 1 rfl) ?_
    exact fin _ _ _ _ _ _ hf hP hD hS dX6_refuse_12
  exact go _ _ hP hD hS _ hl
abbrev rm_X6_isIn : Room := { frames := 1, cells := 0, slots := 0, locals := 24 }
set_option maxHeartbeats 4000000 in
set_option maxRecDepth 100000 in
theorem c_X6_isIn (l : Launch) (G : zG) (sz : Nat) (p0 : Int32) (p1 : Int32) (out : Int32) (hf : f_X6_isIn p0 p1 = some out) : Met l yX6_isIn wsX6_isIn rm_X6_isIn (PcM G (([] : va_W)) [.int p0, .int p1] sz) (QRo G (([] : va_W)) out (va_A (([] : va_W)) sz)) 0 0 (va_A (([] : va_W)) sz) := by
  rw [f_X6_isIn] at hf
  refine Met.ofW (cc := cX6_isIn) (maxL := 2) (ret := (some .boolean)) (by decide) rfl ?_
  intro p e s m args below meth c s₁ B hml hv
  obtain ⟨hargs, hsz, hP, hK, hD0, hE⟩ := hv
  have hx := B.exec
  have hb := B.bytes
  have hr := B.returns
  have hts := atoms_spec (ws := wsX6_isIn) B.pre
  have hown : s.vm.findClass RX6 = some m.cls := findClass_of_methodNamed B.named
  have hlocks := B.notSynchronized
  subst hsz
  have hD := hD0.self (sz := s.heap.size)
  generalize hAe : va_A (([] : va_W)) s.heap.size = A at hD hE ⊢
  have hA : ∀ q : Nat, s.heap.size ≤ q → A q := fun q h => by rw [← hAe]; exact Or.inr h
  have hS : va_S A s.heap s.heap [] := va_S.rf
  have hl := lv_entry ([.int p0, .int p1]) (n := 2) (Nat.le_of_ble_eq_true rfl)
  have hent : entryFrame m args 2 = F0 m 0 ((lg_sl ([.int p0, .int p1]) ++ List.replicate (2 - (lg_sl ([.int p0, .int p1])).length) Slot.unset).toArray) [] := by rw [hargs, lg_entry_eq]
  rw [hent]
  clear hent
  generalize (lg_sl ([.int p0, .int p1]) ++ List.replicate (2 - (lg_sl ([.int p0, .int p1])).length) Slot.unset).toArray = ls at hl ⊢
  have hl : lv_has ls 2 [(0, .int p0), (1, .int p1)] := hl
  have fin : ∀ (pc : Nat) (v : Int32) (H : Heap) (locs : List Loc) (ls : Array Slot), some v = some out → narrow .boolean (.int v) = .int v → va_P G.1 vwCl (([] : va_W)) H → va_D A (([] : va_W)) → va_S A s.heap H locs → decode cX6_isIn pc = .ok (.ireturn, 1) → W p l e (headSpec wsX6_isIn rm_X6_isIn).room s m args below meth c H locs 0 0 (MQ below (QRo G (([] : va_W)) out A) args s 0 0 A) (F0 m pc ls [.int v]) := fun pc v H locs ls ho hn hP hD hS hd => W.zret (v := v) hx hb hr hn (fun t ht hW => ⟨⟨v, (), rfl, Option.some.inj ho, by first | (rw [ht]; exact hP) | (dsimp only; rw [ht]; exact hP)⟩, hS.F ht⟩) hS.2.2 hd
  generalize MQ below (QRo G (([] : va_W)) out A) args s 0 0 A = Q at fin ⊢
  have blk13 : f_X6_isIn_b13 = some out → ∀ (H : Heap) (locs : List Loc), va_P G.1 vwCl (([] : va_W)) H → va_D A (([] : va_W)) → va_S A s.heap H locs → ∀ (ls : Array Slot), lv_has ls 2 [] → W p l e (headSpec wsX6_isIn rm_X6_isIn).room s m args below meth c H locs 0 0 Q (F0 m 13 ls []) := by
    intro hf H locs hP hD hS ls hl
    rw [f_X6_isIn_b13] at hf
    refine lv_iconst (v := 0) hx hb dX6_isIn_13 (by decide) ?_
    exact fin _ _ _ _ _ hf rfl hP hD hS dX6_isIn_14
  have go : ∀ (H : Heap) (locs : List Loc), va_P G.1 vwCl (([] : va_W)) H → va_D A (([] : va_W)) → va_S A s.heap H locs → ∀ (ls : Array Slot), lv_has ls 2 [(0, .int p0), (1, .int p1)] → W p l e (headSpec wsX6_isIn rm_X6_isIn).room s m args below meth c H locs 0 0 Q (F0 m 0 ls []) := by
    intro H locs hP hD hS ls hl
    refine lv_iload_n hx hb dX6_isIn_0 rfl (lv_at hl 0 rfl) ?_
    refine lv_if_lt (tgt := 13) hx hb dX6_isIn_1 (by decide) (fun c1 => ?_) (fun c1 => ?_)
    · replace hf := ob_pos c1 hf
      exact blk13  hf _ _ hP hD hS _ (lv_sub hl [] rfl)
    · replace hf := ob_neg c1 hf
      refine lv_iload_n hx hb dX6_isIn_4 rfl (lv_at hl 0 rfl) ?_
      refine lv_iload_n hx hb dX6_isIn_5 rfl (lv_at hl 1 rfl) ?_
      refine lv_icmp_ge (tgt := 13) hx hb dX6_isIn_6 (by decide) (fun c2 => ?_) (fun c2 => ?_)
      · replace hf := ob_pos c2 hf
        exact blk13  hf _ _ hP hD hS _ (lv_sub hl [] rfl)
      · replace hf := ob_neg c2 hf
        refine lv_iconst (v := 1) hx hb dX6_isIn_9 (by decide) ?_
        refine lv_goto (tgt := 14) hx hb dX6_isIn_10 (by decide) ?_
        exact fin _ _ _ _ _ hf rfl hP hD hS dX6_isIn_14
  exact go _ _ hP hD hS _ hl
abbrev rm_X6_within : Room := { frames := 1, cells := 0, slots := 0, locals := 24 }
set_option maxHeartbeats 4000000 in
set_option maxRecDepth 100000 in
theorem c_X6_within (l : Launch) (G : zG) (sz : Nat) (p0 : Int32) (p1 : Int32) (p2 : Int32) (out : Int32) (hf : f_X6_within p0 p1 p2 = some out) : Met l yX6_within wsX6_within rm_X6_within (PcM G (([] : va_W)) [.int p0, .int p1, .int p2] sz) (QRo G (([] : va_W)) out (va_A (([] : va_W)) sz)) 0 0 (va_A (([] : va_W)) sz) := by
  rw [f_X6_within] at hf
  refine Met.ofW (cc := cX6_within) (maxL := 3) (ret := (some .int)) (by decide) rfl ?_
  intro p e s m args below meth c s₁ B hml hv
  obtain ⟨hargs, hsz, hP, hK, hD0, hE⟩ := hv
  have hx := B.exec
  have hb := B.bytes
  have hr := B.returns
  have hts := atoms_spec (ws := wsX6_within) B.pre
  have hown : s.vm.findClass RX6 = some m.cls := findClass_of_methodNamed B.named
  have hlocks := B.notSynchronized
  subst hsz
  have hD := hD0.self (sz := s.heap.size)
  generalize hAe : va_A (([] : va_W)) s.heap.size = A at hD hE ⊢
  have hA : ∀ q : Nat, s.heap.size ≤ q → A q := fun q h => by rw [← hAe]; exact Or.inr h
  have hS : va_S A s.heap s.heap [] := va_S.rf
  have hl := lv_entry ([.int p0, .int p1, .int p2]) (n := 3) (Nat.le_of_ble_eq_true rfl)
  have hent : entryFrame m args 3 = F0 m 0 ((lg_sl ([.int p0, .int p1, .int p2]) ++ List.replicate (3 - (lg_sl ([.int p0, .int p1, .int p2])).length) Slot.unset).toArray) [] := by rw [hargs, lg_entry_eq]
  rw [hent]
  clear hent
  generalize (lg_sl ([.int p0, .int p1, .int p2]) ++ List.replicate (3 - (lg_sl ([.int p0, .int p1, .int p2])).length) Slot.unset).toArray = ls at hl ⊢
  have hl : lv_has ls 3 [(0, .int p0), (1, .int p1), (2, .int p2)] := hl
  have fin : ∀ (pc : Nat) (v : Int32) (H : Heap) (locs : List Loc) (ls : Array Slot), some v = some out → va_P G.1 vwCl (([] : va_W)) H → va_D A (([] : va_W)) → va_S A s.heap H locs → decode cX6_within pc = .ok (.ireturn, 1) → W p l e (headSpec wsX6_within rm_X6_within).room s m args below meth c H locs 0 0 (MQ below (QRo G (([] : va_W)) out A) args s 0 0 A) (F0 m pc ls [.int v]) := fun pc v H locs ls ho hP hD hS hd => W.iret (v := v) hx hb hr (fun t ht hW => ⟨⟨v, (), rfl, Option.some.inj ho, by first | (rw [ht]; exact hP) | (dsimp only; rw [ht]; exact hP)⟩, hS.F ht⟩) hS.2.2 hd
  generalize MQ below (QRo G (([] : va_W)) out A) args s 0 0 A = Q at fin ⊢
  have go : ∀ (H : Heap) (locs : List Loc), va_P G.1 vwCl (([] : va_W)) H → va_D A (([] : va_W)) → va_S A s.heap H locs → ∀ (ls : Array Slot), lv_has ls 3 [(0, .int p0), (1, .int p1), (2, .int p2)] → W p l e (headSpec wsX6_within rm_X6_within).room s m args below meth c H locs 0 0 Q (F0 m 0 ls []) := by
    intro H locs hP hD hS ls hl
    refine lv_iload_n hx hb dX6_within_0 rfl (lv_at hl 0 rfl) ?_
    refine lv_iload_n hx hb dX6_within_1 rfl (lv_at hl 1 rfl) ?_
    refine lv_icmp_ge (tgt := 10) hx hb dX6_within_2 (by decide) (fun c1 => ?_) (fun c1 => ?_)
    · replace hf := ob_pos c1 hf
      refine lv_iload_n hx hb dX6_within_10 rfl (lv_at hl 0 rfl) ?_
      refine lv_iload_n hx hb dX6_within_11 rfl (lv_at hl 2 rfl) ?_
      refine lv_icmp_le (tgt := 20) hx hb dX6_within_12 (by decide) (fun c2 => ?_) (fun c2 => ?_)
      · replace hf := ob_pos c2 hf
        refine lv_iconst (v := 0) hx hb dX6_within_20 (by decide) ?_
        exact fin _ _ _ _ _ hf hP hD hS dX6_within_21
      · replace hf := ob_neg c2 hf
        refine lv_bipush (v := (-6)) hx hb dX6_within_15 (by decide) ?_
        refine lv_goto (tgt := 21) hx hb dX6_within_17 (by decide) ?_
        exact fin _ _ _ _ _ hf hP hD hS dX6_within_21
    · replace hf := ob_neg c1 hf
      refine lv_bipush (v := (-4)) hx hb dX6_within_5 (by decide) ?_
      refine lv_goto (tgt := 21) hx hb dX6_within_7 (by decide) ?_
      exact fin _ _ _ _ _ hf hP hD hS dX6_within_21
  exact go _ _ hP hD hS _ hl
abbrev rm_X6_amount : Room := { frames := 1, cells := 0, slots := 0, locals := 24 }
set_option maxHeartbeats 4000000 in
set_option maxRecDepth 100000 in
theorem c_X6_amount (l : Launch) (G : zG) (sz : Nat) (p0 : Int32) (out : Int32) (hf : f_X6_amount p0 = some out) : Met l yX6_amount wsX6_amount rm_X6_amount (PcM G (([] : va_W)) [.int p0] sz) (QRo G (([] : va_W)) out (va_A (([] : va_W)) sz)) 0 0 (va_A (([] : va_W)) sz) := by
  rw [f_X6_amount] at hf
  refine Met.ofW (cc := cX6_amount) (maxL := 1) (ret := (some .int)) (by decide) rfl ?_
  intro p e s m args below meth c s₁ B hml hv
  obtain ⟨hargs, hsz, hP, hK, hD0, hE⟩ := hv
  have hx := B.exec
  have hb := B.bytes
  have hr := B.returns
  have hts := atoms_spec (ws := wsX6_amount) B.pre
  have hown : s.vm.findClass RX6 = some m.cls := findClass_of_methodNamed B.named
  have hlocks := B.notSynchronized
  subst hsz
  have hD := hD0.self (sz := s.heap.size)
  generalize hAe : va_A (([] : va_W)) s.heap.size = A at hD hE ⊢
  have hA : ∀ q : Nat, s.heap.size ≤ q → A q := fun q h => by rw [← hAe]; exact Or.inr h
  have hS : va_S A s.heap s.heap [] := va_S.rf
  have hl := lv_entry ([.int p0]) (n := 1) (Nat.le_of_ble_eq_true rfl)
  have hent : entryFrame m args 1 = F0 m 0 ((lg_sl ([.int p0]) ++ List.replicate (1 - (lg_sl ([.int p0])).length) Slot.unset).toArray) [] := by rw [hargs, lg_entry_eq]
  rw [hent]
  clear hent
  generalize (lg_sl ([.int p0]) ++ List.replicate (1 - (lg_sl ([.int p0])).length) Slot.unset).toArray = ls at hl ⊢
  have hl : lv_has ls 1 [(0, .int p0)] := hl
  have fin : ∀ (pc : Nat) (v : Int32) (H : Heap) (locs : List Loc) (ls : Array Slot), some v = some out → va_P G.1 vwCl (([] : va_W)) H → va_D A (([] : va_W)) → va_S A s.heap H locs → decode cX6_amount pc = .ok (.ireturn, 1) → W p l e (headSpec wsX6_amount rm_X6_amount).room s m args below meth c H locs 0 0 (MQ below (QRo G (([] : va_W)) out A) args s 0 0 A) (F0 m pc ls [.int v]) := fun pc v H locs ls ho hP hD hS hd => W.iret (v := v) hx hb hr (fun t ht hW => ⟨⟨v, (), rfl, Option.some.inj ho, by first | (rw [ht]; exact hP) | (dsimp only; rw [ht]; exact hP)⟩, hS.F ht⟩) hS.2.2 hd
  generalize MQ below (QRo G (([] : va_W)) out A) args s 0 0 A = Q at fin ⊢
  have go : ∀ (H : Heap) (locs : List Loc), va_P G.1 vwCl (([] : va_W)) H → va_D A (([] : va_W)) → va_S A s.heap H locs → ∀ (ls : Array Slot), lv_has ls 1 [(0, .int p0)] → W p l e (headSpec wsX6_amount rm_X6_amount).room s m args below meth c H locs 0 0 Q (F0 m 0 ls []) := by
    intro H locs hP hD hS ls hl
    refine lv_iload_n hx hb dX6_amount_0 rfl (lv_at hl 0 rfl) ?_
    refine lv_if_ge (tgt := 9) hx hb dX6_amount_1 (by decide) (fun c1 => ?_) (fun c1 => ?_)
    · replace hf := ob_pos c1 hf
      refine lv_iload_n hx hb dX6_amount_9 rfl (lv_at hl 0 rfl) ?_
      exact fin _ _ _ _ _ hf hP hD hS dX6_amount_10
    · replace hf := ob_neg c1 hf
      refine lv_iload_n hx hb dX6_amount_4 rfl (lv_at hl 0 rfl) ?_
      refine lv_ineg hx hb dX6_amount_5 ?_
      refine lv_goto (tgt := 10) hx hb dX6_amount_6 (by decide) ?_
      exact fin _ _ _ _ _ hf hP hD hS dX6_amount_10
  exact go _ _ hP hD hS _ hl
abbrev rm_X6_copies : Room := { frames := 1, cells := 0, slots := 0, locals := 24 }
set_option maxHeartbeats 4000000 in
set_option maxRecDepth 100000 in
theorem c_X6_copies (l : Launch) (G : zG) (a0 : AT_A130) (a1 : AT_A130) (sz : Nat) (S0 : ST_A130) (S1 : ST_A130) (out : ST_A130) (hf : f_X6_copies S0 S1 = some out) : Met l yX6_copies wsX6_copies rm_X6_copies (PcM G (ce_A130 G.2.1 a0 S0 ++ ce_A130 G.2.1 a1 S1) [.ref a0, .ref a1] sz) (QWv G (fun u => ce_A130 G.2.1 a0 S0 ++ ce_A130 G.2.1 a1 u) out (va_A (ce_A130 G.2.1 a0 S0 ++ ce_A130 G.2.1 a1 S1) sz)) 0 0 (va_A (ce_A130 G.2.1 a0 S0 ++ ce_A130 G.2.1 a1 S1) sz) := by
  rw [f_X6_copies] at hf
  refine Met.ofW (cc := cX6_copies) (maxL := 3) (ret := none) (by decide) rfl ?_
  intro p e s m args below meth c s₁ B hml hv
  obtain ⟨hargs, hsz, hP, hK, hD0, hE⟩ := hv
  have hx := B.exec
  have hb := B.bytes
  have hr := B.returns
  have hts := atoms_spec (ws := wsX6_copies) B.pre
  have hown : s.vm.findClass RX6 = some m.cls := findClass_of_methodNamed B.named
  have hlocks := B.notSynchronized
  subst hsz
  have hD := hD0.self (sz := s.heap.size)
  generalize hAe : va_A (ce_A130 G.2.1 a0 S0 ++ ce_A130 G.2.1 a1 S1) s.heap.size = A at hD hE ⊢
  have hA : ∀ q : Nat, s.heap.size ≤ q → A q := fun q h => by rw [← hAe]; exact Or.inr h
  have hS : va_S A s.heap s.heap [] := va_S.rf
  have hl := lv_entry ([.ref a0, .ref a1]) (n := 3) (Nat.le_of_ble_eq_true rfl)
  have hent : entryFrame m args 3 = F0 m 0 ((lg_sl ([.ref a0, .ref a1]) ++ List.replicate (3 - (lg_sl ([.ref a0, .ref a1])).length) Slot.unset).toArray) [] := by rw [hargs, lg_entry_eq]
  rw [hent]
  clear hent
  generalize (lg_sl ([.ref a0, .ref a1]) ++ List.replicate (3 - (lg_sl ([.ref a0, .ref a1])).length) Slot.unset).toArray = ls at hl ⊢
  have hl : lv_has ls 3 [(0, .ref a0), (1, .ref a1)] := hl
  have fin : ∀ (pc : Nat) (u : ST_A130) (H : Heap) (locs : List Loc) (ls : Array Slot), some u = some out → va_P G.1 vwCl (ce_A130 G.2.1 a0 S0 ++ ce_A130 G.2.1 a1 u) H → va_D A (ce_A130 G.2.1 a0 S0 ++ ce_A130 G.2.1 a1 u) → va_S A s.heap H locs → decode cX6_copies pc = .ok (.return_, 1) → W p l e (headSpec wsX6_copies rm_X6_copies).room s m args below meth c H locs 0 0 (MQ below (QWv G (fun u => ce_A130 G.2.1 a0 S0 ++ ce_A130 G.2.1 a1 u) out A) args s 0 0 A) (F0 m pc ls []) := fun pc u H locs ls ho hP hD hS hd => W.vret hx hb hr (fun t ht hW => ⟨⟨u, rfl, Option.some.inj ho, by first | (rw [ht]; exact hP) | (dsimp only; rw [ht]; exact hP), hD⟩, hS.F ht⟩) hS.2.2 hd
  generalize MQ below (QWv G (fun u => ce_A130 G.2.1 a0 S0 ++ ce_A130 G.2.1 a1 u) out A) args s 0 0 A = Q at fin ⊢
  have blk2 : ∀ (fu2 : Nat), ∀ (S1 : ST_A130) (v2 : Int32), f_X6_copies_b2 S0 fu2 S1 v2 = some out → ∀ (H : Heap) (locs : List Loc), va_P G.1 vwCl (ce_A130 G.2.1 a0 S0 ++ ce_A130 G.2.1 a1 S1) H → va_D A (ce_A130 G.2.1 a0 S0 ++ ce_A130 G.2.1 a1 S1) → va_S A s.heap H locs → ∀ (ls : Array Slot), lv_has ls 3 [(0, .ref a0), (1, .ref a1), (2, .int v2)] → W p l e (headSpec wsX6_copies rm_X6_copies).room s m args below meth c H locs 0 0 Q (F0 m 2 ls []) := by
    intro fu2
    induction fu2 with
    | zero => intro S1 v2 hf; exact ob_none hf
    | succ fu2 ih2 =>
      intro S1 v2 hf H locs hP hD hS ls hl
      rw [f_X6_copies_b2] at hf
      refine lv_iload_n hx hb dX6_copies_2 rfl (lv_at hl 2 rfl) ?_
      refine lv_sipush (v := 130) hx hb dX6_copies_3 (by decide) ?_
      refine lv_icmp_ge (tgt := 21) hx hb dX6_copies_6 (by decide) (fun c1 => ?_) (fun c1 => ?_)
      · replace hf := ob_pos c1 hf
        exact fin _ _ _ _ _ hf hP hD hS dX6_copies_21
      · replace hf := ob_neg c1 hf
        refine lv_aload_n hx hb dX6_copies_9 rfl (lv_at hl 1 rfl) ?_
        refine lv_iload_n hx hb dX6_copies_10 rfl (lv_at hl 2 rfl) ?_
        refine lv_aload_n hx hb dX6_copies_11 rfl (lv_at hl 0 rfl) ?_
        refine lv_iload_n hx hb dX6_copies_12 rfl (lv_at hl 2 rfl) ?_
        obtain ⟨hg2, hf⟩ := ob_guard hf
        refine va_iald hx hb hK hP 0 0 rfl rfl hg2 dX6_copies_13 ?_
        obtain ⟨hg3, hf⟩ := ob_guard hf
        refine va_iast hx hb hK hP hD hS 1 0 rfl rfl hg3 dX6_copies_14 (fun H locs hP hD hS => ?_)
        have hP : va_P G.1 vwCl (ce_A130 G.2.1 a0 S0 ++ ce_A130 G.2.1 a1 (upd S1 (v2.toNatClampNeg) (S0 v2.toNatClampNeg))) H := hP
        have hD : va_D A (ce_A130 G.2.1 a0 S0 ++ ce_A130 G.2.1 a1 (upd S1 (v2.toNatClampNeg) (S0 v2.toNatClampNeg))) := hD
        refine lv_iinc (v := v2 + 1) (lv' := [(2, .int (v2 + 1)), (0, .ref a0), (1, .ref a1)]) hx hb dX6_copies_15 hl (k := 2) rfl rfl (by decide) rfl (fun ls hl => ?_)
        refine lv_goto (tgt := 2) hx hb dX6_copies_18 (by decide) ?_
        exact ih2 _ _ hf _ _ hP hD hS _ (lv_sub hl [1, 2, 0] rfl)
  have go : ∀ (H : Heap) (locs : List Loc), va_P G.1 vwCl (ce_A130 G.2.1 a0 S0 ++ ce_A130 G.2.1 a1 S1) H → va_D A (ce_A130 G.2.1 a0 S0 ++ ce_A130 G.2.1 a1 S1) → va_S A s.heap H locs → ∀ (ls : Array Slot), lv_has ls 3 [(0, .ref a0), (1, .ref a1)] → W p l e (headSpec wsX6_copies rm_X6_copies).room s m args below meth c H locs 0 0 Q (F0 m 0 ls []) := by
    intro H locs hP hD hS ls hl
    refine lv_iconst (v := 0) hx hb dX6_copies_0 (by decide) ?_
    refine lv_istore_n (lv' := [(2, .int 0), (0, .ref a0), (1, .ref a1)]) hx hb dX6_copies_1 rfl hl (by decide) rfl (fun ls hl => ?_)
    exact blk2 4096 _ _ hf _ _ hP hD hS _ (lv_sub hl [1, 2, 0] rfl)
  exact go _ _ hP hD hS _ hl
abbrev rm_X6_bits : Room := { frames := 1, cells := 0, slots := 0, locals := 24 }
set_option maxHeartbeats 4000000 in
set_option maxRecDepth 100000 in
theorem c_X6_bits (l : Launch) (G : zG) (sz : Nat) (p0 : Int32) (out : Int32) (hf : f_X6_bits p0 = some out) : Met l yX6_bits wsX6_bits rm_X6_bits (PcM G (([] : va_W)) [.int p0] sz) (QRo G (([] : va_W)) out (va_A (([] : va_W)) sz)) 0 0 (va_A (([] : va_W)) sz) := by
  rw [f_X6_bits] at hf
  refine Met.ofW (cc := cX6_bits) (maxL := 3) (ret := (some .int)) (by decide) rfl ?_
  intro p e s m args below meth c s₁ B hml hv
  obtain ⟨hargs, hsz, hP, hK, hD0, hE⟩ := hv
  have hx := B.exec
  have hb := B.bytes
  have hr := B.returns
  have hts := atoms_spec (ws := wsX6_bits) B.pre
  have hown : s.vm.findClass RX6 = some m.cls := findClass_of_methodNamed B.named
  have hlocks := B.notSynchronized
  subst hsz
  have hD := hD0.self (sz := s.heap.size)
  generalize hAe : va_A (([] : va_W)) s.heap.size = A at hD hE ⊢
  have hA : ∀ q : Nat, s.heap.size ≤ q → A q := fun q h => by rw [← hAe]; exact Or.inr h
  have hS : va_S A s.heap s.heap [] := va_S.rf
  have hl := lv_entry ([.int p0]) (n := 3) (Nat.le_of_ble_eq_true rfl)
  have hent : entryFrame m args 3 = F0 m 0 ((lg_sl ([.int p0]) ++ List.replicate (3 - (lg_sl ([.int p0])).length) Slot.unset).toArray) [] := by rw [hargs, lg_entry_eq]
  rw [hent]
  clear hent
  generalize (lg_sl ([.int p0]) ++ List.replicate (3 - (lg_sl ([.int p0])).length) Slot.unset).toArray = ls at hl ⊢
  have hl : lv_has ls 3 [(0, .int p0)] := hl
  have fin : ∀ (pc : Nat) (v : Int32) (H : Heap) (locs : List Loc) (ls : Array Slot), some v = some out → va_P G.1 vwCl (([] : va_W)) H → va_D A (([] : va_W)) → va_S A s.heap H locs → decode cX6_bits pc = .ok (.ireturn, 1) → W p l e (headSpec wsX6_bits rm_X6_bits).room s m args below meth c H locs 0 0 (MQ below (QRo G (([] : va_W)) out A) args s 0 0 A) (F0 m pc ls [.int v]) := fun pc v H locs ls ho hP hD hS hd => W.iret (v := v) hx hb hr (fun t ht hW => ⟨⟨v, (), rfl, Option.some.inj ho, by first | (rw [ht]; exact hP) | (dsimp only; rw [ht]; exact hP)⟩, hS.F ht⟩) hS.2.2 hd
  generalize MQ below (QRo G (([] : va_W)) out A) args s 0 0 A = Q at fin ⊢
  have blk4 : ∀ (fu4 : Nat), ∀ (v1 : Int32) (v2 : Int32), f_X6_bits_b4 fu4 v1 v2 = some out → ∀ (H : Heap) (locs : List Loc), va_P G.1 vwCl (([] : va_W)) H → va_D A (([] : va_W)) → va_S A s.heap H locs → ∀ (ls : Array Slot), lv_has ls 3 [(1, .int v1), (2, .int v2)] → W p l e (headSpec wsX6_bits rm_X6_bits).room s m args below meth c H locs 0 0 Q (F0 m 4 ls []) := by
    intro fu4
    induction fu4 with
    | zero => intro v1 v2 hf; exact ob_none hf
    | succ fu4 ih4 =>
      intro v1 v2 hf H locs hP hD hS ls hl
      rw [f_X6_bits_b4] at hf
      refine lv_iload_n hx hb dX6_bits_4 rfl (lv_at hl 1 rfl) ?_
      refine lv_if_le (tgt := 21) hx hb dX6_bits_5 (by decide) (fun c1 => ?_) (fun c1 => ?_)
      · replace hf := ob_pos c1 hf
        refine lv_iload_n hx hb dX6_bits_21 rfl (lv_at hl 0 rfl) ?_
        exact fin _ _ _ _ _ hf hP hD hS dX6_bits_22
      · replace hf := ob_neg c1 hf
        refine lv_iload_n hx hb dX6_bits_8 rfl (lv_at hl 0 rfl) ?_
        refine lv_iload_n hx hb dX6_bits_9 rfl (lv_at hl 1 rfl) ?_
        refine lv_iconst (v := 1) hx hb dX6_bits_10 (by decide) ?_
        refine lv_iand hx hb dX6_bits_11 ?_
        refine lv_iadd hx hb dX6_bits_12 ?_
        refine lv_istore_n (lv' := [(1, .int (v1 + (v2 &&& 1))), (2, .int v2)]) hx hb dX6_bits_13 rfl hl (by decide) rfl (fun ls hl => ?_)
        refine lv_iload_n hx hb dX6_bits_14 rfl (lv_at hl 1 rfl) ?_
        refine lv_iconst (v := 1) hx hb dX6_bits_15 (by decide) ?_
        refine lv_ishr hx hb dX6_bits_16 ?_
        refine lv_istore_n (lv' := [(2, .int (v2 >>> (1 &&& 31))), (1, .int (v1 + (v2 &&& 1)))]) hx hb dX6_bits_17 rfl hl (by decide) rfl (fun ls hl => ?_)
        refine lv_goto (tgt := 4) hx hb dX6_bits_18 (by decide) ?_
        exact ih4 _ _ hf _ _ hP hD hS _ (lv_sub hl [1, 0] rfl)
  have go : ∀ (H : Heap) (locs : List Loc), va_P G.1 vwCl (([] : va_W)) H → va_D A (([] : va_W)) → va_S A s.heap H locs → ∀ (ls : Array Slot), lv_has ls 3 [(0, .int p0)] → W p l e (headSpec wsX6_bits rm_X6_bits).room s m args below meth c H locs 0 0 Q (F0 m 0 ls []) := by
    intro H locs hP hD hS ls hl
    refine lv_iconst (v := 0) hx hb dX6_bits_0 (by decide) ?_
    refine lv_istore_n (lv' := [(1, .int 0), (0, .int p0)]) hx hb dX6_bits_1 rfl hl (by decide) rfl (fun ls hl => ?_)
    refine lv_iload_n hx hb dX6_bits_2 rfl (lv_at hl 1 rfl) ?_
    refine lv_istore_n (lv' := [(2, .int p0), (1, .int 0), (0, .int p0)]) hx hb dX6_bits_3 rfl hl (by decide) rfl (fun ls hl => ?_)
    exact blk4 4096 _ _ hf _ _ hP hD hS _ (lv_sub hl [1, 0] rfl)
  exact go _ _ hP hD hS _ hl
abbrev rm_X6_isEngine : Room := { frames := 2, cells := 0, slots := 0, locals := 45 }
set_option maxHeartbeats 4000000 in
set_option maxRecDepth 100000 in
theorem c_X6_isEngine (l : Launch) (G : zG) (a0 : AT_X6) (sz : Nat) (S0 : ST_X6) (p1 : Int32) (out : Int32) (hf : f_X6_isEngine S0 p1 = some out) : Met l yX6_isEngine wsX6_isEngine rm_X6_isEngine (PcM G (ce_X6 G.2.1 a0 S0) [.ref a0.1, .int p1] sz) (QRo G (ce_X6 G.2.1 a0 S0) out (va_A (ce_X6 G.2.1 a0 S0) sz)) 0 0 (va_A (ce_X6 G.2.1 a0 S0) sz) := by
  rw [f_X6_isEngine] at hf
  refine Met.ofW (cc := cX6_isEngine) (maxL := 2) (ret := (some .boolean)) (by decide) rfl ?_
  intro p e s m args below meth c s₁ B hml hv
  obtain ⟨hargs, hsz, hP, hK, hD0, hE⟩ := hv
  have hx := B.exec
  have hb := B.bytes
  have hr := B.returns
  have hts := atoms_spec (ws := wsX6_isEngine) B.pre
  have hown : s.vm.findClass RX6 = some m.cls := findClass_of_methodNamed B.named
  have hlocks := B.notSynchronized
  subst hsz
  have hD := hD0.self (sz := s.heap.size)
  generalize hAe : va_A (ce_X6 G.2.1 a0 S0) s.heap.size = A at hD hE ⊢
  have hA : ∀ q : Nat, s.heap.size ≤ q → A q := fun q h => by rw [← hAe]; exact Or.inr h
  have hS : va_S A s.heap s.heap [] := va_S.rf
  have hl := lv_entry ([.ref a0.1, .int p1]) (n := 2) (Nat.le_of_ble_eq_true rfl)
  have hent : entryFrame m args 2 = F0 m 0 ((lg_sl ([.ref a0.1, .int p1]) ++ List.replicate (2 - (lg_sl ([.ref a0.1, .int p1])).length) Slot.unset).toArray) [] := by rw [hargs, lg_entry_eq]
  rw [hent]
  clear hent
  generalize (lg_sl ([.ref a0.1, .int p1]) ++ List.replicate (2 - (lg_sl ([.ref a0.1, .int p1])).length) Slot.unset).toArray = ls at hl ⊢
  have hl : lv_has ls 2 [(0, .ref a0.1), (1, .int p1)] := hl
  have lk0 := hts (Cond.fieldLink RX6 13 "EnginesOnListModel" "s" "[I") (List.mem_of_getElem? (i := 1) rfl)
  have hinX6 : ∀ w ∈ wsX60, w ∈ wsX6_isEngine := by decide +kernel
  have fin : ∀ (pc : Nat) (v : Int32) (H : Heap) (locs : List Loc) (ls : Array Slot), some v = some out → narrow .boolean (.int v) = .int v → va_P G.1 vwCl (ce_X6 G.2.1 a0 S0) H → va_D A (ce_X6 G.2.1 a0 S0) → va_S A s.heap H locs → decode cX6_isEngine pc = .ok (.ireturn, 1) → W p l e (headSpec wsX6_isEngine rm_X6_isEngine).room s m args below meth c H locs 0 0 (MQ below (QRo G (ce_X6 G.2.1 a0 S0) out A) args s 0 0 A) (F0 m pc ls [.int v]) := fun pc v H locs ls ho hn hP hD hS hd => W.zret (v := v) hx hb hr hn (fun t ht hW => ⟨⟨v, (), rfl, Option.some.inj ho, by first | (rw [ht]; exact hP) | (dsimp only; rw [ht]; exact hP)⟩, hS.F ht⟩) hS.2.2 hd
  generalize MQ below (QRo G (ce_X6 G.2.1 a0 S0) out A) args s 0 0 A = Q at fin ⊢
  have go : ∀ (H : Heap) (locs : List Loc), va_P G.1 vwCl (ce_X6 G.2.1 a0 S0) H → va_D A (ce_X6 G.2.1 a0 S0) → va_S A s.heap H locs → ∀ (ls : Array Slot), lv_has ls 2 [(0, .ref a0.1), (1, .int p1)] → W p l e (headSpec wsX6_isEngine rm_X6_isEngine).room s m args below meth c H locs 0 0 Q (F0 m 0 ls []) := by
    intro H locs hP hD hS ls hl
    refine lv_iload_n hx hb dX6_isEngine_0 rfl (lv_at hl 1 rfl) ?_
    refine lv_aload_n hx hb dX6_isEngine_1 rfl (lv_at hl 0 rfl) ?_
    refine va_get (D := G.1) (ci := 6) (v := .ref a0.2.2.1) (C := RX6) (T := TX6) (N := 14) hx hb hts hinX6 hown hK hP 0 rfl rfl 1 (by decide) lk0 (fun _ h9 => h9) rfl dX6_isEngine_2 ?_
    refine lv_iconst (v := 0) hx hb dX6_isEngine_5 (by decide) ?_
    refine va_iald hx hb hK hP 2 0 rfl rfl (by decide : inB 0 130) dX6_isEngine_6 ?_
    refine zl_top (y := S0.2.1 0) rfl ?_
    obtain ⟨r1, hr1, hf⟩ := ob_bind hf
    have hPc : va_P G.1 vwCl (([] : va_W)) H := hP.sub [] rfl
    have hDc : va_D A (([] : va_W)) := hD.sub [] (by decide) rfl
    have hFc := va_free (wc := ([] : va_W)) hD hS hA [] rfl
    refine zc_ro (va_runS (As := [.int p1, .int (S0.2.1 0)]) (rest := []) ⟨hx, hb, hml, hown, hts⟩ (c_X6_isIn l G H.size p1 (S0.2.1 0) _ hr1) (va_cwS 2 hts gX6_isEngine_X6_isIn rfl rfl rfl (by decide +kernel) ⟨Nat.le_of_ble_eq_true rfl, Nat.le_of_ble_eq_true rfl⟩) ⟨PcM.blind, PcM.ok hPc hDc hK hE hS hFc⟩ rfl rfl hl.1 rfl (lv_room (Nat.le_of_ble_eq_true rfl)) dX6_isEngine_7 ⟨Nat.le_refl _, Nat.le_refl _⟩) hP hD hS hA [] rfl (fun H locs hP hS => ?_)
    obtain ⟨hg2, hf⟩ := ob_guard hf
    exact fin _ _ _ _ _ hf (congrArg Value.int hg2) hP hD hS dX6_isEngine_10
  exact go _ _ hP hD hS _ hl
abbrev rm_X6_get : Room := { frames := 1, cells := 0, slots := 0, locals := 24 }
set_option maxHeartbeats 4000000 in
set_option maxRecDepth 100000 in
theorem c_X6_get (l : Launch) (G : zG) (a0 : AT_X6) (sz : Nat) (S0 : ST_X6) (p1 : Int32) (p2 : Int32) (out : Int32) (hf : f_X6_get S0 p1 p2 = some out) : Met l yX6_get wsX6_get rm_X6_get (PcM G (ce_X6 G.2.1 a0 S0) [.ref a0.1, .int p1, .int p2] sz) (QRo G (ce_X6 G.2.1 a0 S0) out (va_A (ce_X6 G.2.1 a0 S0) sz)) 0 0 (va_A (ce_X6 G.2.1 a0 S0) sz) := by
  rw [f_X6_get] at hf
  refine Met.ofW (cc := cX6_get) (maxL := 3) (ret := (some .int)) (by decide) rfl ?_
  intro p e s m args below meth c s₁ B hml hv
  obtain ⟨hargs, hsz, hP, hK, hD0, hE⟩ := hv
  have hx := B.exec
  have hb := B.bytes
  have hr := B.returns
  have hts := atoms_spec (ws := wsX6_get) B.pre
  have hown : s.vm.findClass RX6 = some m.cls := findClass_of_methodNamed B.named
  have hlocks := B.notSynchronized
  subst hsz
  have hD := hD0.self (sz := s.heap.size)
  generalize hAe : va_A (ce_X6 G.2.1 a0 S0) s.heap.size = A at hD hE ⊢
  have hA : ∀ q : Nat, s.heap.size ≤ q → A q := fun q h => by rw [← hAe]; exact Or.inr h
  have hS : va_S A s.heap s.heap [] := va_S.rf
  have hl := lv_entry ([.ref a0.1, .int p1, .int p2]) (n := 3) (Nat.le_of_ble_eq_true rfl)
  have hent : entryFrame m args 3 = F0 m 0 ((lg_sl ([.ref a0.1, .int p1, .int p2]) ++ List.replicate (3 - (lg_sl ([.ref a0.1, .int p1, .int p2])).length) Slot.unset).toArray) [] := by rw [hargs, lg_entry_eq]
  rw [hent]
  clear hent
  generalize (lg_sl ([.ref a0.1, .int p1, .int p2]) ++ List.replicate (3 - (lg_sl ([.ref a0.1, .int p1, .int p2])).length) Slot.unset).toArray = ls at hl ⊢
  have hl : lv_has ls 3 [(0, .ref a0.1), (1, .int p1), (2, .int p2)] := hl
  have lk0 := hts (Cond.fieldLink RX6 13 "EnginesOnListModel" "s" "[I") (List.mem_of_getElem? (i := 1) rfl)
  have hinX6 : ∀ w ∈ wsX60, w ∈ wsX6_get := by decide +kernel
  have fin : ∀ (pc : Nat) (v : Int32) (H : Heap) (locs : List Loc) (ls : Array Slot), some v = some out → va_P G.1 vwCl (ce_X6 G.2.1 a0 S0) H → va_D A (ce_X6 G.2.1 a0 S0) → va_S A s.heap H locs → decode cX6_get pc = .ok (.ireturn, 1) → W p l e (headSpec wsX6_get rm_X6_get).room s m args below meth c H locs 0 0 (MQ below (QRo G (ce_X6 G.2.1 a0 S0) out A) args s 0 0 A) (F0 m pc ls [.int v]) := fun pc v H locs ls ho hP hD hS hd => W.iret (v := v) hx hb hr (fun t ht hW => ⟨⟨v, (), rfl, Option.some.inj ho, by first | (rw [ht]; exact hP) | (dsimp only; rw [ht]; exact hP)⟩, hS.F ht⟩) hS.2.2 hd
  generalize MQ below (QRo G (ce_X6 G.2.1 a0 S0) out A) args s 0 0 A = Q at fin ⊢
  have go : ∀ (H : Heap) (locs : List Loc), va_P G.1 vwCl (ce_X6 G.2.1 a0 S0) H → va_D A (ce_X6 G.2.1 a0 S0) → va_S A s.heap H locs → ∀ (ls : Array Slot), lv_has ls 3 [(0, .ref a0.1), (1, .int p1), (2, .int p2)] → W p l e (headSpec wsX6_get rm_X6_get).room s m args below meth c H locs 0 0 Q (F0 m 0 ls []) := by
    intro H locs hP hD hS ls hl
    refine lv_aload_n hx hb dX6_get_0 rfl (lv_at hl 0 rfl) ?_
    refine va_get (D := G.1) (ci := 6) (v := .ref a0.2.2.1) (C := RX6) (T := TX6) (N := 14) hx hb hts hinX6 hown hK hP 0 rfl rfl 1 (by decide) lk0 (fun _ h9 => h9) rfl dX6_get_1 ?_
    refine lv_iconst (v := 5) hx hb dX6_get_4 (by decide) ?_
    refine lv_bipush (v := 11) hx hb dX6_get_5 (by decide) ?_
    refine lv_iload_n hx hb dX6_get_7 rfl (lv_at hl 1 rfl) ?_
    refine lv_imul hx hb dX6_get_8 ?_
    refine lv_iadd hx hb dX6_get_9 ?_
    refine lv_iload_n hx hb dX6_get_10 rfl (lv_at hl 2 rfl) ?_
    refine lv_iadd hx hb dX6_get_11 ?_
    obtain ⟨hg1, hf⟩ := ob_guard hf
    refine va_iald hx hb hK hP 2 0 rfl rfl hg1 dX6_get_12 ?_
    exact fin _ _ _ _ _ hf hP hD hS dX6_get_13
  exact go _ _ hP hD hS _ hl
abbrev rm_X6_letter : Room := { frames := 2, cells := 0, slots := 0, locals := 46 }
set_option maxHeartbeats 4000000 in
set_option maxRecDepth 100000 in
theorem c_X6_letter (l : Launch) (G : zG) (a0 : AT_X6) (sz : Nat) (S0 : ST_X6) (p1 : Int32) (out : Int32 × ST_X6) (hf : f_X6_letter S0 p1 = some out) : Met l yX6_letter wsX6_letter rm_X6_letter (PcM G (ce_X6 G.2.1 a0 S0) [.ref a0.1, .int p1] sz) (QWr G (fun u => ce_X6 G.2.1 a0 u) out (va_A (ce_X6 G.2.1 a0 S0) sz)) 0 0 (va_A (ce_X6 G.2.1 a0 S0) sz) := by
  rw [f_X6_letter] at hf
  refine Met.ofW (cc := cX6_letter) (maxL := 3) (ret := (some .int)) (by decide) rfl ?_
  intro p e s m args below meth c s₁ B hml hv
  obtain ⟨hargs, hsz, hP, hK, hD0, hE⟩ := hv
  have hx := B.exec
  have hb := B.bytes
  have hr := B.returns
  have hts := atoms_spec (ws := wsX6_letter) B.pre
  have hown : s.vm.findClass RX6 = some m.cls := findClass_of_methodNamed B.named
  have hlocks := B.notSynchronized
  subst hsz
  have hD := hD0.self (sz := s.heap.size)
  generalize hAe : va_A (ce_X6 G.2.1 a0 S0) s.heap.size = A at hD hE ⊢
  have hA : ∀ q : Nat, s.heap.size ≤ q → A q := fun q h => by rw [← hAe]; exact Or.inr h
  have hS : va_S A s.heap s.heap [] := va_S.rf
  have hl := lv_entry ([.ref a0.1, .int p1]) (n := 3) (Nat.le_of_ble_eq_true rfl)
  have hent : entryFrame m args 3 = F0 m 0 ((lg_sl ([.ref a0.1, .int p1]) ++ List.replicate (3 - (lg_sl ([.ref a0.1, .int p1])).length) Slot.unset).toArray) [] := by rw [hargs, lg_entry_eq]
  rw [hent]
  clear hent
  generalize (lg_sl ([.ref a0.1, .int p1]) ++ List.replicate (3 - (lg_sl ([.ref a0.1, .int p1])).length) Slot.unset).toArray = ls at hl ⊢
  have hl : lv_has ls 3 [(0, .ref a0.1), (1, .int p1)] := hl
  have lk0 := hts (Cond.fieldLink RX6 22 "EnginesOnListModel" "tape" "[I") (List.mem_of_getElem? (i := 2) rfl)
  have lk1 := hts (Cond.fieldLink RX6 45 "EnginesOnListModel" "taped" "I") (List.mem_of_getElem? (i := 1) rfl)
  have hinX6 : ∀ w ∈ wsX60, w ∈ wsX6_letter := by decide +kernel
  have fin : ∀ (pc : Nat) (v : Int32) (u : ST_X6) (H : Heap) (locs : List Loc) (ls : Array Slot), some (v, u) = some out → va_P G.1 vwCl (ce_X6 G.2.1 a0 u) H → va_D A (ce_X6 G.2.1 a0 u) → va_S A s.heap H locs → decode cX6_letter pc = .ok (.ireturn, 1) → W p l e (headSpec wsX6_letter rm_X6_letter).room s m args below meth c H locs 0 0 (MQ below (QWr G (fun u => ce_X6 G.2.1 a0 u) out A) args s 0 0 A) (F0 m pc ls [.int v]) := fun pc v u H locs ls ho hP hD hS hd => W.iret (v := v) hx hb hr (fun t ht hW => ⟨⟨v, u, rfl, ob_pair ho, by first | (rw [ht]; exact hP) | (dsimp only; rw [ht]; exact hP), hD⟩, hS.F ht⟩) hS.2.2 hd
  generalize MQ below (QWr G (fun u => ce_X6 G.2.1 a0 u) out A) args s 0 0 A = Q at fin ⊢
  have blk25 : ∀ (S0 : ST_X6) (v1 : Int32) (v2 : Int32), f_X6_letter_b25 S0 v1 v2 = some out → ∀ (H : Heap) (locs : List Loc), va_P G.1 vwCl (ce_X6 G.2.1 a0 S0) H → va_D A (ce_X6 G.2.1 a0 S0) → va_S A s.heap H locs → ∀ (ls : Array Slot), lv_has ls 3 [(0, .ref a0.1), (1, .int v1), (2, .int v2)] → W p l e (headSpec wsX6_letter rm_X6_letter).room s m args below meth c H locs 0 0 Q (F0 m 25 ls []) := by
    intro S0 v1 v2 hf H locs hP hD hS ls hl
    rw [f_X6_letter_b25] at hf
    refine lv_iload_n hx hb dX6_letter_25 rfl (lv_at hl 2 rfl) ?_
    refine lv_if_eq (tgt := 35) hx hb dX6_letter_26 (by decide) (fun c1 => ?_) (fun c1 => ?_)
    · replace hf := ob_pos c1 hf
      refine lv_aload_n hx hb dX6_letter_35 rfl (lv_at hl 0 rfl) ?_
      refine va_get (D := G.1) (ci := 6) (v := .ref a0.2.2.2.2.2.1) (C := RX6) (T := TX6) (N := 14) hx hb hts hinX6 hown hK hP 0 rfl rfl 5 (by decide) lk0 (fun _ h9 => h9) rfl dX6_letter_36 ?_
      refine lv_aload_n hx hb dX6_letter_39 rfl (lv_at hl 0 rfl) ?_
      refine va_get (D := G.1) (ci := 6) (v := .int S0.2.2.2.2.2.2.2.1) (C := RX6) (T := TX6) (N := 14) hx hb hts hinX6 hown hK hP 0 rfl rfl 7 (by decide) lk1 (fun _ h9 => h9) rfl dX6_letter_40 ?_
      refine lv_iload_n hx hb dX6_letter_43 rfl (lv_at hl 1 rfl) ?_
      obtain ⟨hg2, hf⟩ := ob_guard hf
      refine va_iast hx hb hK hP hD hS 5 0 rfl rfl hg2 dX6_letter_44 (fun H locs hP hD hS => ?_)
      have hP : va_P G.1 vwCl (ce_X6 G.2.1 a0 (S0.1, S0.2.1, S0.2.2.1, S0.2.2.2.1, S0.2.2.2.2.1, (upd S0.2.2.2.2.2.1 (S0.2.2.2.2.2.2.2.1.toNatClampNeg) v1), S0.2.2.2.2.2.2.1, S0.2.2.2.2.2.2.2.1, S0.2.2.2.2.2.2.2.2.1, S0.2.2.2.2.2.2.2.2.2.1, S0.2.2.2.2.2.2.2.2.2.2.1, S0.2.2.2.2.2.2.2.2.2.2.2.1, S0.2.2.2.2.2.2.2.2.2.2.2.2.1, S0.2.2.2.2.2.2.2.2.2.2.2.2.2)) H := hP
      have hD : va_D A (ce_X6 G.2.1 a0 (S0.1, S0.2.1, S0.2.2.1, S0.2.2.2.1, S0.2.2.2.2.1, (upd S0.2.2.2.2.2.1 (S0.2.2.2.2.2.2.2.1.toNatClampNeg) v1), S0.2.2.2.2.2.2.1, S0.2.2.2.2.2.2.2.1, S0.2.2.2.2.2.2.2.2.1, S0.2.2.2.2.2.2.2.2.2.1, S0.2.2.2.2.2.2.2.2.2.2.1, S0.2.2.2.2.2.2.2.2.2.2.2.1, S0.2.2.2.2.2.2.2.2.2.2.2.2.1, S0.2.2.2.2.2.2.2.2.2.2.2.2.2)) := hD
      refine lv_aload_n hx hb dX6_letter_45 rfl (lv_at hl 0 rfl) ?_
      refine lv_dup hx hb dX6_letter_46 rfl ?_
      refine va_get (D := G.1) (ci := 6) (v := .int S0.2.2.2.2.2.2.2.1) (C := RX6) (T := TX6) (N := 14) hx hb hts hinX6 hown hK hP 0 rfl rfl 7 (by decide) lk1 (fun _ h9 => h9) rfl dX6_letter_47 ?_
      refine lv_iconst (v := 1) hx hb dX6_letter_50 (by decide) ?_
      refine lv_iadd hx hb dX6_letter_51 ?_
      refine va_put (D := G.1) (ci := 6) (v := .int (S0.2.2.2.2.2.2.2.1 + 1)) (ty := .int) (C := RX6) (T := TX6) (N := 14) hx hb hts hinX6 tyX6 tyX6_ok nmX6 hown hK hP hD hS 0 rfl rfl 7 (by decide) lk1 (fun _ h9 => h9) rfl (by decide +kernel) rfl rfl (Nat.le_of_ble_eq_true rfl) dX6_letter_52 (fun H locs hP hD hS => ?_)
      have hP : va_P G.1 vwCl (ce_X6 G.2.1 a0 (S0.1, S0.2.1, S0.2.2.1, S0.2.2.2.1, S0.2.2.2.2.1, (upd S0.2.2.2.2.2.1 (S0.2.2.2.2.2.2.2.1.toNatClampNeg) v1), S0.2.2.2.2.2.2.1, S0.2.2.2.2.2.2.2.1 + 1, S0.2.2.2.2.2.2.2.2.1, S0.2.2.2.2.2.2.2.2.2.1, S0.2.2.2.2.2.2.2.2.2.2.1, S0.2.2.2.2.2.2.2.2.2.2.2.1, S0.2.2.2.2.2.2.2.2.2.2.2.2.1, S0.2.2.2.2.2.2.2.2.2.2.2.2.2)) H := hP
      have hD : va_D A (ce_X6 G.2.1 a0 (S0.1, S0.2.1, S0.2.2.1, S0.2.2.2.1, S0.2.2.2.2.1, (upd S0.2.2.2.2.2.1 (S0.2.2.2.2.2.2.2.1.toNatClampNeg) v1), S0.2.2.2.2.2.2.1, S0.2.2.2.2.2.2.2.1 + 1, S0.2.2.2.2.2.2.2.2.1, S0.2.2.2.2.2.2.2.2.2.1, S0.2.2.2.2.2.2.2.2.2.2.1, S0.2.2.2.2.2.2.2.2.2.2.2.1, S0.2.2.2.2.2.2.2.2.2.2.2.2.1, S0.2.2.2.2.2.2.2.2.2.2.2.2.2)) := hD
      refine lv_aload_n hx hb dX6_letter_55 rfl (lv_at hl 0 rfl) ?_
      refine va_get (D := G.1) (ci := 6) (v := .int (S0.2.2.2.2.2.2.2.1 + 1)) (C := RX6) (T := TX6) (N := 14) hx hb hts hinX6 hown hK hP 0 rfl rfl 7 (by decide) lk1 (fun _ h9 => h9) rfl dX6_letter_56 ?_
      exact fin _ _ _ _ _ _ hf hP hD hS dX6_letter_59
    · replace hf := ob_neg c1 hf
      refine lv_aload_n hx hb dX6_letter_29 rfl (lv_at hl 0 rfl) ?_
      refine lv_iload_n hx hb dX6_letter_30 rfl (lv_at hl 2 rfl) ?_
      obtain ⟨r3, hr3, hf⟩ := ob_bind hf
      have hFc := va_free (wc := ce_X6 G.2.1 a0 S0) hD hS hA [0, 1, 2, 3, 4, 5, 6, 7, 8, 9] rfl
      refine zc_wr (cf := (fun u => ce_X6 G.2.1 a0 u)) (ws' := ce_X6 G.2.1 a0 r3.2) (va_runV (As := [.int v2]) (rest := []) ⟨hx, hb, hml, hown, hts⟩ (c_X6_refuse l G a0 H.size S0 v2 _ hr3) (cwV 1 hts gX6_letter_X6_refuse rfl rfl rfl (by decide +kernel) ⟨Nat.le_of_ble_eq_true rfl, Nat.le_of_ble_eq_true rfl⟩) ⟨PcM.blind, va_recv hK hP (ci := 6) (q0 := 0) rfl rfl, PcM.ok hP hD hK hE hS hFc⟩ rfl rfl hl.1 rfl (lv_room (Nat.le_of_ble_eq_true rfl)) dX6_letter_31 ⟨Nat.le_refl _, Nat.le_refl _⟩) hP hD hS hA [0, 1, 2, 3, 4, 5, 6, 7, 8, 9] [] [0, 1, 2, 3, 4, 5, 6, 7, 8, 9] rfl rfl (by decide) (by decide) (by decide) rfl (fun H locs hP hD hS => ?_)
      exact fin _ _ _ _ _ _ hf hP hD hS dX6_letter_34
  have go : ∀ (H : Heap) (locs : List Loc), va_P G.1 vwCl (ce_X6 G.2.1 a0 S0) H → va_D A (ce_X6 G.2.1 a0 S0) → va_S A s.heap H locs → ∀ (ls : Array Slot), lv_has ls 3 [(0, .ref a0.1), (1, .int p1)] → W p l e (headSpec wsX6_letter rm_X6_letter).room s m args below meth c H locs 0 0 Q (F0 m 0 ls []) := by
    intro H locs hP hD hS ls hl
    refine lv_iload_n hx hb dX6_letter_0 rfl (lv_at hl 1 rfl) ?_
    refine lv_iconst (v := 0) hx hb dX6_letter_1 (by decide) ?_
    refine lv_sipush (v := 255) hx hb dX6_letter_2 (by decide) ?_
    obtain ⟨r4, hr4, hf⟩ := ob_bind hf
    have hPc : va_P G.1 vwCl (([] : va_W)) H := hP.sub [] rfl
    have hDc : va_D A (([] : va_W)) := hD.sub [] (by decide) rfl
    have hFc := va_free (wc := ([] : va_W)) hD hS hA [] rfl
    refine zc_ro (va_runS (As := [.int p1, .int 0, .int 255]) (rest := []) ⟨hx, hb, hml, hown, hts⟩ (c_X6_within l G H.size p1 0 255 _ hr4) (va_cwS 3 hts gX6_letter_X6_within rfl rfl rfl (by decide +kernel) ⟨Nat.le_of_ble_eq_true rfl, Nat.le_of_ble_eq_true rfl⟩) ⟨PcM.blind, PcM.ok hPc hDc hK hE hS hFc⟩ rfl rfl hl.1 rfl (lv_room (Nat.le_of_ble_eq_true rfl)) dX6_letter_5 ⟨Nat.le_refl _, Nat.le_refl _⟩) hP hD hS hA [] rfl (fun H locs hP hS => ?_)
    refine lv_istore_n (lv' := [(2, .int r4), (0, .ref a0.1), (1, .int p1)]) hx hb dX6_letter_8 rfl hl (by decide) rfl (fun ls hl => ?_)
    refine lv_iload_n hx hb dX6_letter_9 rfl (lv_at hl 0 rfl) ?_
    refine lv_if_ne (tgt := 25) hx hb dX6_letter_10 (by decide) (fun c5 => ?_) (fun c5 => ?_)
    · replace hf := ob_neg c5 hf
      exact blk25 _ _ _ hf _ _ hP hD hS _ (lv_sub hl [1, 2, 0] rfl)
    · replace hf := ob_pos c5 hf
      refine lv_aload_n hx hb dX6_letter_13 rfl (lv_at hl 1 rfl) ?_
      refine va_get (D := G.1) (ci := 6) (v := .int S0.2.2.2.2.2.2.2.1) (C := RX6) (T := TX6) (N := 14) hx hb hts hinX6 hown hK hP 0 rfl rfl 7 (by decide) lk1 (fun _ h9 => h9) rfl dX6_letter_14 ?_
      refine lv_bipush (v := 64) hx hb dX6_letter_17 (by decide) ?_
      refine lv_icmp_ne (tgt := 25) hx hb dX6_letter_19 (by decide) (fun c6 => ?_) (fun c6 => ?_)
      · replace hf := ob_neg c6 hf
        exact blk25 _ _ _ hf _ _ hP hD hS _ (lv_sub hl [1, 2, 0] rfl)
      · replace hf := ob_pos c6 hf
        refine lv_bipush (v := (-6)) hx hb dX6_letter_22 (by decide) ?_
        refine lv_istore_n (lv' := [(2, .int (-6)), (0, .ref a0.1), (1, .int p1)]) hx hb dX6_letter_24 rfl hl (by decide) rfl (fun ls hl => ?_)
        exact blk25 _ _ _ hf _ _ hP hD hS _ (lv_sub hl [1, 2, 0] rfl)
  exact go _ _ hP hD hS _ hl
abbrev rm_X6_sign : Room := { frames := 1, cells := 0, slots := 0, locals := 24 }
set_option maxHeartbeats 4000000 in
set_option maxRecDepth 100000 in
theorem c_X6_sign (l : Launch) (G : zG) (a0 : AT_X6) (sz : Nat) (S0 : ST_X6) (out : Int32) (hf : f_X6_sign S0 = some out) : Met l yX6_sign wsX6_sign rm_X6_sign (PcM G (ce_X6 G.2.1 a0 S0) [.ref a0.1] sz) (QRo G (ce_X6 G.2.1 a0 S0) out (va_A (ce_X6 G.2.1 a0 S0) sz)) 0 0 (va_A (ce_X6 G.2.1 a0 S0) sz) := by
  rw [f_X6_sign] at hf
  refine Met.ofW (cc := cX6_sign) (maxL := 1) (ret := (some .int)) (by decide) rfl ?_
  intro p e s m args below meth c s₁ B hml hv
  obtain ⟨hargs, hsz, hP, hK, hD0, hE⟩ := hv
  have hx := B.exec
  have hb := B.bytes
  have hr := B.returns
  have hts := atoms_spec (ws := wsX6_sign) B.pre
  have hown : s.vm.findClass RX6 = some m.cls := findClass_of_methodNamed B.named
  have hlocks := B.notSynchronized
  subst hsz
  have hD := hD0.self (sz := s.heap.size)
  generalize hAe : va_A (ce_X6 G.2.1 a0 S0) s.heap.size = A at hD hE ⊢
  have hA : ∀ q : Nat, s.heap.size ≤ q → A q := fun q h => by rw [← hAe]; exact Or.inr h
  have hS : va_S A s.heap s.heap [] := va_S.rf
  have hl := lv_entry ([.ref a0.1]) (n := 1) (Nat.le_of_ble_eq_true rfl)
  have hent : entryFrame m args 1 = F0 m 0 ((lg_sl ([.ref a0.1]) ++ List.replicate (1 - (lg_sl ([.ref a0.1])).length) Slot.unset).toArray) [] := by rw [hargs, lg_entry_eq]
  rw [hent]
  clear hent
  generalize (lg_sl ([.ref a0.1]) ++ List.replicate (1 - (lg_sl ([.ref a0.1])).length) Slot.unset).toArray = ls at hl ⊢
  have hl : lv_has ls 1 [(0, .ref a0.1)] := hl
  have lk0 := hts (Cond.fieldLink RX6 53 "EnginesOnListModel" "at" "I") (List.mem_of_getElem? (i := 1) rfl)
  have lk1 := hts (Cond.fieldLink RX6 45 "EnginesOnListModel" "taped" "I") (List.mem_of_getElem? (i := 2) rfl)
  have lk2 := hts (Cond.fieldLink RX6 22 "EnginesOnListModel" "tape" "[I") (List.mem_of_getElem? (i := 3) rfl)
  have hinX6 : ∀ w ∈ wsX60, w ∈ wsX6_sign := by decide +kernel
  have fin : ∀ (pc : Nat) (v : Int32) (H : Heap) (locs : List Loc) (ls : Array Slot), some v = some out → va_P G.1 vwCl (ce_X6 G.2.1 a0 S0) H → va_D A (ce_X6 G.2.1 a0 S0) → va_S A s.heap H locs → decode cX6_sign pc = .ok (.ireturn, 1) → W p l e (headSpec wsX6_sign rm_X6_sign).room s m args below meth c H locs 0 0 (MQ below (QRo G (ce_X6 G.2.1 a0 S0) out A) args s 0 0 A) (F0 m pc ls [.int v]) := fun pc v H locs ls ho hP hD hS hd => W.iret (v := v) hx hb hr (fun t ht hW => ⟨⟨v, (), rfl, Option.some.inj ho, by first | (rw [ht]; exact hP) | (dsimp only; rw [ht]; exact hP)⟩, hS.F ht⟩) hS.2.2 hd
  generalize MQ below (QRo G (ce_X6 G.2.1 a0 S0) out A) args s 0 0 A = Q at fin ⊢
  have go : ∀ (H : Heap) (locs : List Loc), va_P G.1 vwCl (ce_X6 G.2.1 a0 S0) H → va_D A (ce_X6 G.2.1 a0 S0) → va_S A s.heap H locs → ∀ (ls : Array Slot), lv_has ls 1 [(0, .ref a0.1)] → W p l e (headSpec wsX6_sign rm_X6_sign).room s m args below meth c H locs 0 0 Q (F0 m 0 ls []) := by
    intro H locs hP hD hS ls hl
    refine lv_aload_n hx hb dX6_sign_0 rfl (lv_at hl 0 rfl) ?_
    refine va_get (D := G.1) (ci := 6) (v := .int S0.2.2.2.2.2.2.2.2.1) (C := RX6) (T := TX6) (N := 14) hx hb hts hinX6 hown hK hP 0 rfl rfl 8 (by decide) lk0 (fun _ h9 => h9) rfl dX6_sign_1 ?_
    refine lv_aload_n hx hb dX6_sign_4 rfl (lv_at hl 0 rfl) ?_
    refine va_get (D := G.1) (ci := 6) (v := .int S0.2.2.2.2.2.2.2.1) (C := RX6) (T := TX6) (N := 14) hx hb hts hinX6 hown hK hP 0 rfl rfl 7 (by decide) lk1 (fun _ h9 => h9) rfl dX6_sign_5 ?_
    refine lv_icmp_ge (tgt := 23) hx hb dX6_sign_8 (by decide) (fun c1 => ?_) (fun c1 => ?_)
    · replace hf := ob_pos c1 hf
      refine lv_iconst (v := (-1)) hx hb dX6_sign_23 (by decide) ?_
      exact fin _ _ _ _ _ hf hP hD hS dX6_sign_24
    · replace hf := ob_neg c1 hf
      refine lv_aload_n hx hb dX6_sign_11 rfl (lv_at hl 0 rfl) ?_
      refine va_get (D := G.1) (ci := 6) (v := .ref a0.2.2.2.2.2.1) (C := RX6) (T := TX6) (N := 14) hx hb hts hinX6 hown hK hP 0 rfl rfl 5 (by decide) lk2 (fun _ h9 => h9) rfl dX6_sign_12 ?_
      refine lv_aload_n hx hb dX6_sign_15 rfl (lv_at hl 0 rfl) ?_
      refine va_get (D := G.1) (ci := 6) (v := .int S0.2.2.2.2.2.2.2.2.1) (C := RX6) (T := TX6) (N := 14) hx hb hts hinX6 hown hK hP 0 rfl rfl 8 (by decide) lk0 (fun _ h9 => h9) rfl dX6_sign_16 ?_
      obtain ⟨hg2, hf⟩ := ob_guard hf
      refine va_iald hx hb hK hP 5 0 rfl rfl hg2 dX6_sign_19 ?_
      refine lv_goto (tgt := 24) hx hb dX6_sign_20 (by decide) ?_
      exact fin _ _ _ _ _ hf hP hD hS dX6_sign_24
  exact go _ _ hP hD hS _ hl
abbrev rm_X6_readsDigits : Room := { frames := 2, cells := 0, slots := 0, locals := 45 }
set_option maxHeartbeats 4000000 in
set_option maxRecDepth 100000 in
theorem c_X6_readsDigits (l : Launch) (G : zG) (a0 : AT_X6) (sz : Nat) (S0 : ST_X6) (p1 : Int32) (p2 : Int32) (out : Int32 × ST_X6) (hf : f_X6_readsDigits S0 p1 p2 = some out) : Met l yX6_readsDigits wsX6_readsDigits rm_X6_readsDigits (PcM G (ce_X6 G.2.1 a0 S0) [.ref a0.1, .int p1, .int p2] sz) (QWr G (fun u => ce_X6 G.2.1 a0 u) out (va_A (ce_X6 G.2.1 a0 S0) sz)) 0 0 (va_A (ce_X6 G.2.1 a0 S0) sz) := by
  rw [f_X6_readsDigits] at hf
  refine Met.ofW (cc := cX6_readsDigits) (maxL := 4) (ret := (some .boolean)) (by decide) rfl ?_
  intro p e s m args below meth c s₁ B hml hv
  obtain ⟨hargs, hsz, hP, hK, hD0, hE⟩ := hv
  have hx := B.exec
  have hb := B.bytes
  have hr := B.returns
  have hts := atoms_spec (ws := wsX6_readsDigits) B.pre
  have hown : s.vm.findClass RX6 = some m.cls := findClass_of_methodNamed B.named
  have hlocks := B.notSynchronized
  subst hsz
  have hD := hD0.self (sz := s.heap.size)
  generalize hAe : va_A (ce_X6 G.2.1 a0 S0) s.heap.size = A at hD hE ⊢
  have hA : ∀ q : Nat, s.heap.size ≤ q → A q := fun q h => by rw [← hAe]; exact Or.inr h
  have hS : va_S A s.heap s.heap [] := va_S.rf
  have hl := lv_entry ([.ref a0.1, .int p1, .int p2]) (n := 4) (Nat.le_of_ble_eq_true rfl)
  have hent : entryFrame m args 4 = F0 m 0 ((lg_sl ([.ref a0.1, .int p1, .int p2]) ++ List.replicate (4 - (lg_sl ([.ref a0.1, .int p1, .int p2])).length) Slot.unset).toArray) [] := by rw [hargs, lg_entry_eq]
  rw [hent]
  clear hent
  generalize (lg_sl ([.ref a0.1, .int p1, .int p2]) ++ List.replicate (4 - (lg_sl ([.ref a0.1, .int p1, .int p2])).length) Slot.unset).toArray = ls at hl ⊢
  have hl : lv_has ls 4 [(0, .ref a0.1), (1, .int p1), (2, .int p2)] := hl
  have lk0 := hts (Cond.fieldLink RX6 25 "EnginesOnListModel" "told" "[I") (List.mem_of_getElem? (i := 1) rfl)
  have lk1 := hts (Cond.fieldLink RX6 53 "EnginesOnListModel" "at" "I") (List.mem_of_getElem? (i := 2) rfl)
  have hinX6 : ∀ w ∈ wsX60, w ∈ wsX6_readsDigits := by decide +kernel
  have fin : ∀ (pc : Nat) (v : Int32) (u : ST_X6) (H : Heap) (locs : List Loc) (ls : Array Slot), some (v, u) = some out → narrow .boolean (.int v) = .int v → va_P G.1 vwCl (ce_X6 G.2.1 a0 u) H → va_D A (ce_X6 G.2.1 a0 u) → va_S A s.heap H locs → decode cX6_readsDigits pc = .ok (.ireturn, 1) → W p l e (headSpec wsX6_readsDigits rm_X6_readsDigits).room s m args below meth c H locs 0 0 (MQ below (QWr G (fun u => ce_X6 G.2.1 a0 u) out A) args s 0 0 A) (F0 m pc ls [.int v]) := fun pc v u H locs ls ho hn hP hD hS hd => W.zret (v := v) hx hb hr hn (fun t ht hW => ⟨⟨v, u, rfl, ob_pair ho, by first | (rw [ht]; exact hP) | (dsimp only; rw [ht]; exact hP), hD⟩, hS.F ht⟩) hS.2.2 hd
  generalize MQ below (QWr G (fun u => ce_X6 G.2.1 a0 u) out A) args s 0 0 A = Q at fin ⊢
  have blk9 : ∀ (fu9 : Nat), ∀ (S0 : ST_X6) (v1 : Int32) (v2 : Int32) (v3 : Int32), f_X6_readsDigits_b9 fu9 S0 v1 v2 v3 = some out → ∀ (H : Heap) (locs : List Loc), va_P G.1 vwCl (ce_X6 G.2.1 a0 S0) H → va_D A (ce_X6 G.2.1 a0 S0) → va_S A s.heap H locs → ∀ (ls : Array Slot), lv_has ls 4 [(0, .ref a0.1), (1, .int v1), (2, .int v2), (3, .int v3)] → W p l e (headSpec wsX6_readsDigits rm_X6_readsDigits).room s m args below meth c H locs 0 0 Q (F0 m 9 ls []) := by
    intro fu9
    induction fu9 with
    | zero => intro S0 v1 v2 v3 hf; exact ob_none hf
    | succ fu9 ih9 =>
      intro S0 v1 v2 v3 hf H locs hP hD hS ls hl
      rw [f_X6_readsDigits_b9] at hf
      refine lv_iload_n hx hb dX6_readsDigits_9 rfl (lv_at hl 3 rfl) ?_
      refine lv_iload_n hx hb dX6_readsDigits_10 rfl (lv_at hl 2 rfl) ?_
      refine lv_icmp_ge (tgt := 70) hx hb dX6_readsDigits_11 (by decide) (fun c1 => ?_) (fun c1 => ?_)
      · replace hf := ob_pos c1 hf
        refine lv_iconst (v := 1) hx hb dX6_readsDigits_70 (by decide) ?_
        exact fin _ _ _ _ _ _ hf rfl hP hD hS dX6_readsDigits_71
      · replace hf := ob_neg c1 hf
        refine lv_aload_n hx hb dX6_readsDigits_14 rfl (lv_at hl 0 rfl) ?_
        obtain ⟨r2, hr2, hf⟩ := ob_bind hf
        have hFc := va_free (wc := ce_X6 G.2.1 a0 S0) hD hS hA [0, 1, 2, 3, 4, 5, 6, 7, 8, 9] rfl
        refine zc_ro (va_runV (As := []) (rest := []) ⟨hx, hb, hml, hown, hts⟩ (c_X6_sign l G a0 H.size S0 _ hr2) (cwV 0 hts gX6_readsDigits_X6_sign rfl rfl rfl (by decide +kernel) ⟨Nat.le_of_ble_eq_true rfl, Nat.le_of_ble_eq_true rfl⟩) ⟨PcM.blind, va_recv hK hP (ci := 6) (q0 := 0) rfl rfl, PcM.ok hP hD hK hE hS hFc⟩ rfl rfl hl.1 rfl (lv_room (Nat.le_of_ble_eq_true rfl)) dX6_readsDigits_15 ⟨Nat.le_refl _, Nat.le_refl _⟩) hP hD hS hA [0, 1, 2, 3, 4, 5, 6, 7, 8, 9] rfl (fun H locs hP hS => ?_)
        refine lv_bipush (v := 48) hx hb dX6_readsDigits_18 (by decide) ?_
        refine lv_isub hx hb dX6_readsDigits_20 ?_
        refine lv_bipush (v := 10) hx hb dX6_readsDigits_21 (by decide) ?_
        obtain ⟨r3, hr3, hf⟩ := ob_bind hf
        have hPc : va_P G.1 vwCl (([] : va_W)) H := hP.sub [] rfl
        have hDc : va_D A (([] : va_W)) := hD.sub [] (by decide) rfl
        have hFc := va_free (wc := ([] : va_W)) hD hS hA [] rfl
        refine zc_ro (va_runS (As := [.int (r2 - 48), .int 10]) (rest := []) ⟨hx, hb, hml, hown, hts⟩ (c_X6_isIn l G H.size (r2 - 48) 10 _ hr3) (va_cwS 2 hts gX6_readsDigits_X6_isIn rfl rfl rfl (by decide +kernel) ⟨Nat.le_of_ble_eq_true rfl, Nat.le_of_ble_eq_true rfl⟩) ⟨PcM.blind, PcM.ok hPc hDc hK hE hS hFc⟩ rfl rfl hl.1 rfl (lv_room (Nat.le_of_ble_eq_true rfl)) dX6_readsDigits_23 ⟨Nat.le_refl _, Nat.le_refl _⟩) hP hD hS hA [] rfl (fun H locs hP hS => ?_)
        refine lv_if_ne (tgt := 31) hx hb dX6_readsDigits_26 (by decide) (fun c4 => ?_) (fun c4 => ?_)
        · replace hf := ob_neg c4 hf
          refine lv_aload_n hx hb dX6_readsDigits_31 rfl (lv_at hl 0 rfl) ?_
          refine va_get (D := G.1) (ci := 6) (v := .ref a0.2.2.2.2.2.2.1) (C := RX6) (T := TX6) (N := 14) hx hb hts hinX6 hown hK hP 0 rfl rfl 6 (by decide) lk0 (fun _ h9 => h9) rfl dX6_readsDigits_32 ?_
          refine lv_iload_n hx hb dX6_readsDigits_35 rfl (lv_at hl 1 rfl) ?_
          refine lv_bipush (v := 10) hx hb dX6_readsDigits_36 (by decide) ?_
          refine lv_aload_n hx hb dX6_readsDigits_38 rfl (lv_at hl 0 rfl) ?_
          refine va_get (D := G.1) (ci := 6) (v := .ref a0.2.2.2.2.2.2.1) (C := RX6) (T := TX6) (N := 14) hx hb hts hinX6 hown hK hP 0 rfl rfl 6 (by decide) lk0 (fun _ h9 => h9) rfl dX6_readsDigits_39 ?_
          refine lv_iload_n hx hb dX6_readsDigits_42 rfl (lv_at hl 1 rfl) ?_
          obtain ⟨hg5, hf⟩ := ob_guard hf
          refine va_iald hx hb hK hP 6 0 rfl rfl hg5 dX6_readsDigits_43 ?_
          refine lv_imul hx hb dX6_readsDigits_44 ?_
          refine lv_aload_n hx hb dX6_readsDigits_45 rfl (lv_at hl 0 rfl) ?_
          obtain ⟨r6, hr6, hf⟩ := ob_bind hf
          have hFc := va_free (wc := ce_X6 G.2.1 a0 S0) hD hS hA [0, 1, 2, 3, 4, 5, 6, 7, 8, 9] rfl
          refine zc_ro (va_runV (As := []) (rest := [.int (10 * (S0.2.2.2.2.2.2.1 v1.toNatClampNeg)), .int v1, .ref a0.2.2.2.2.2.2.1]) ⟨hx, hb, hml, hown, hts⟩ (c_X6_sign l G a0 H.size S0 _ hr6) (cwV 0 hts gX6_readsDigits_X6_sign rfl rfl rfl (by decide +kernel) ⟨Nat.le_of_ble_eq_true rfl, Nat.le_of_ble_eq_true rfl⟩) ⟨PcM.blind, va_recv hK hP (ci := 6) (q0 := 0) rfl rfl, PcM.ok hP hD hK hE hS hFc⟩ rfl rfl hl.1 rfl (lv_room (Nat.le_of_ble_eq_true rfl)) dX6_readsDigits_46 ⟨Nat.le_refl _, Nat.le_refl _⟩) hP hD hS hA [0, 1, 2, 3, 4, 5, 6, 7, 8, 9] rfl (fun H locs hP hS => ?_)
          refine lv_iadd hx hb dX6_readsDigits_49 ?_
          refine lv_bipush (v := 48) hx hb dX6_readsDigits_50 (by decide) ?_
          refine lv_isub hx hb dX6_readsDigits_52 ?_
          obtain ⟨hg7, hf⟩ := ob_guard hf
          refine va_iast hx hb hK hP hD hS 6 0 rfl rfl hg7 dX6_readsDigits_53 (fun H locs hP hD hS => ?_)
          have hP : va_P G.1 vwCl (ce_X6 G.2.1 a0 (S0.1, S0.2.1, S0.2.2.1, S0.2.2.2.1, S0.2.2.2.2.1, S0.2.2.2.2.2.1, (upd S0.2.2.2.2.2.2.1 (v1.toNatClampNeg) (((10 * (S0.2.2.2.2.2.2.1 v1.toNatClampNeg)) + r6) - 48)), S0.2.2.2.2.2.2.2.1, S0.2.2.2.2.2.2.2.2.1, S0.2.2.2.2.2.2.2.2.2.1, S0.2.2.2.2.2.2.2.2.2.2.1, S0.2.2.2.2.2.2.2.2.2.2.2.1, S0.2.2.2.2.2.2.2.2.2.2.2.2.1, S0.2.2.2.2.2.2.2.2.2.2.2.2.2)) H := hP
          have hD : va_D A (ce_X6 G.2.1 a0 (S0.1, S0.2.1, S0.2.2.1, S0.2.2.2.1, S0.2.2.2.2.1, S0.2.2.2.2.2.1, (upd S0.2.2.2.2.2.2.1 (v1.toNatClampNeg) (((10 * (S0.2.2.2.2.2.2.1 v1.toNatClampNeg)) + r6) - 48)), S0.2.2.2.2.2.2.2.1, S0.2.2.2.2.2.2.2.2.1, S0.2.2.2.2.2.2.2.2.2.1, S0.2.2.2.2.2.2.2.2.2.2.1, S0.2.2.2.2.2.2.2.2.2.2.2.1, S0.2.2.2.2.2.2.2.2.2.2.2.2.1, S0.2.2.2.2.2.2.2.2.2.2.2.2.2)) := hD
          refine lv_aload_n hx hb dX6_readsDigits_54 rfl (lv_at hl 0 rfl) ?_
          refine lv_dup hx hb dX6_readsDigits_55 rfl ?_
          refine va_get (D := G.1) (ci := 6) (v := .int S0.2.2.2.2.2.2.2.2.1) (C := RX6) (T := TX6) (N := 14) hx hb hts hinX6 hown hK hP 0 rfl rfl 8 (by decide) lk1 (fun _ h9 => h9) rfl dX6_readsDigits_56 ?_
          refine lv_iconst (v := 1) hx hb dX6_readsDigits_59 (by decide) ?_
          refine lv_iadd hx hb dX6_readsDigits_60 ?_
          refine va_put (D := G.1) (ci := 6) (v := .int (S0.2.2.2.2.2.2.2.2.1 + 1)) (ty := .int) (C := RX6) (T := TX6) (N := 14) hx hb hts hinX6 tyX6 tyX6_ok nmX6 hown hK hP hD hS 0 rfl rfl 8 (by decide) lk1 (fun _ h9 => h9) rfl (by decide +kernel) rfl rfl (Nat.le_of_ble_eq_true rfl) dX6_readsDigits_61 (fun H locs hP hD hS => ?_)
          have hP : va_P G.1 vwCl (ce_X6 G.2.1 a0 (S0.1, S0.2.1, S0.2.2.1, S0.2.2.2.1, S0.2.2.2.2.1, S0.2.2.2.2.2.1, (upd S0.2.2.2.2.2.2.1 (v1.toNatClampNeg) (((10 * (S0.2.2.2.2.2.2.1 v1.toNatClampNeg)) + r6) - 48)), S0.2.2.2.2.2.2.2.1, S0.2.2.2.2.2.2.2.2.1 + 1, S0.2.2.2.2.2.2.2.2.2.1, S0.2.2.2.2.2.2.2.2.2.2.1, S0.2.2.2.2.2.2.2.2.2.2.2.1, S0.2.2.2.2.2.2.2.2.2.2.2.2.1, S0.2.2.2.2.2.2.2.2.2.2.2.2.2)) H := hP
          have hD : va_D A (ce_X6 G.2.1 a0 (S0.1, S0.2.1, S0.2.2.1, S0.2.2.2.1, S0.2.2.2.2.1, S0.2.2.2.2.2.1, (upd S0.2.2.2.2.2.2.1 (v1.toNatClampNeg) (((10 * (S0.2.2.2.2.2.2.1 v1.toNatClampNeg)) + r6) - 48)), S0.2.2.2.2.2.2.2.1, S0.2.2.2.2.2.2.2.2.1 + 1, S0.2.2.2.2.2.2.2.2.2.1, S0.2.2.2.2.2.2.2.2.2.2.1, S0.2.2.2.2.2.2.2.2.2.2.2.1, S0.2.2.2.2.2.2.2.2.2.2.2.2.1, S0.2.2.2.2.2.2.2.2.2.2.2.2.2)) := hD
          refine lv_iinc (v := v3 + 1) (lv' := [(3, .int (v3 + 1)), (0, .ref a0.1), (1, .int v1), (2, .int v2)]) hx hb dX6_readsDigits_64 hl (k := 3) rfl rfl (by decide) rfl (fun ls hl => ?_)
          refine lv_goto (tgt := 9) hx hb dX6_readsDigits_67 (by decide) ?_
          exact ih9 _ _ _ _ hf _ _ hP hD hS _ (lv_sub hl [1, 2, 3, 0] rfl)
        · replace hf := ob_pos c4 hf
          refine lv_iconst (v := 0) hx hb dX6_readsDigits_29 (by decide) ?_
          exact fin _ _ _ _ _ _ hf rfl hP hD hS dX6_readsDigits_30
  have go : ∀ (H : Heap) (locs : List Loc), va_P G.1 vwCl (ce_X6 G.2.1 a0 S0) H → va_D A (ce_X6 G.2.1 a0 S0) → va_S A s.heap H locs → ∀ (ls : Array Slot), lv_has ls 4 [(0, .ref a0.1), (1, .int p1), (2, .int p2)] → W p l e (headSpec wsX6_readsDigits rm_X6_readsDigits).room s m args below meth c H locs 0 0 Q (F0 m 0 ls []) := by
    intro H locs hP hD hS ls hl
    refine lv_aload_n hx hb dX6_readsDigits_0 rfl (lv_at hl 0 rfl) ?_
    refine va_get (D := G.1) (ci := 6) (v := .ref a0.2.2.2.2.2.2.1) (C := RX6) (T := TX6) (N := 14) hx hb hts hinX6 hown hK hP 0 rfl rfl 6 (by decide) lk0 (fun _ h9 => h9) rfl dX6_readsDigits_1 ?_
    refine lv_iload_n hx hb dX6_readsDigits_4 rfl (lv_at hl 1 rfl) ?_
    refine lv_iconst (v := 0) hx hb dX6_readsDigits_5 (by decide) ?_
    obtain ⟨hg8, hf⟩ := ob_guard hf
    refine va_iast hx hb hK hP hD hS 6 0 rfl rfl hg8 dX6_readsDigits_6 (fun H locs hP hD hS => ?_)
    have hP : va_P G.1 vwCl (ce_X6 G.2.1 a0 (S0.1, S0.2.1, S0.2.2.1, S0.2.2.2.1, S0.2.2.2.2.1, S0.2.2.2.2.2.1, (upd S0.2.2.2.2.2.2.1 (p1.toNatClampNeg) 0), S0.2.2.2.2.2.2.2.1, S0.2.2.2.2.2.2.2.2.1, S0.2.2.2.2.2.2.2.2.2.1, S0.2.2.2.2.2.2.2.2.2.2.1, S0.2.2.2.2.2.2.2.2.2.2.2.1, S0.2.2.2.2.2.2.2.2.2.2.2.2.1, S0.2.2.2.2.2.2.2.2.2.2.2.2.2)) H := hP
    have hD : va_D A (ce_X6 G.2.1 a0 (S0.1, S0.2.1, S0.2.2.1, S0.2.2.2.1, S0.2.2.2.2.1, S0.2.2.2.2.2.1, (upd S0.2.2.2.2.2.2.1 (p1.toNatClampNeg) 0), S0.2.2.2.2.2.2.2.1, S0.2.2.2.2.2.2.2.2.1, S0.2.2.2.2.2.2.2.2.2.1, S0.2.2.2.2.2.2.2.2.2.2.1, S0.2.2.2.2.2.2.2.2.2.2.2.1, S0.2.2.2.2.2.2.2.2.2.2.2.2.1, S0.2.2.2.2.2.2.2.2.2.2.2.2.2)) := hD
    refine lv_iconst (v := 0) hx hb dX6_readsDigits_7 (by decide) ?_
    refine lv_istore_n (lv' := [(3, .int 0), (0, .ref a0.1), (1, .int p1), (2, .int p2)]) hx hb dX6_readsDigits_8 rfl hl (by decide) rfl (fun ls hl => ?_)
    exact blk9 4096 _ _ _ _ hf _ _ hP hD hS _ (lv_sub hl [1, 2, 3, 0] rfl)
  exact go _ _ hP hD hS _ hl
abbrev rm_X6_kindOf : Room := { frames := 1, cells := 0, slots := 0, locals := 24 }
set_option maxHeartbeats 4000000 in
set_option maxRecDepth 100000 in
theorem c_X6_kindOf (l : Launch) (G : zG) (sz : Nat) (p0 : Int32) (out : Int32) (hf : f_X6_kindOf p0 = some out) : Met l yX6_kindOf wsX6_kindOf rm_X6_kindOf (PcM G (([] : va_W)) [.int p0] sz) (QRo G (([] : va_W)) out (va_A (([] : va_W)) sz)) 0 0 (va_A (([] : va_W)) sz) := by
  rw [f_X6_kindOf] at hf
  refine Met.ofW (cc := cX6_kindOf) (maxL := 1) (ret := (some .int)) (by decide) rfl ?_
  intro p e s m args below meth c s₁ B hml hv
  obtain ⟨hargs, hsz, hP, hK, hD0, hE⟩ := hv
  have hx := B.exec
  have hb := B.bytes
  have hr := B.returns
  have hts := atoms_spec (ws := wsX6_kindOf) B.pre
  have hown : s.vm.findClass RX6 = some m.cls := findClass_of_methodNamed B.named
  have hlocks := B.notSynchronized
  subst hsz
  have hD := hD0.self (sz := s.heap.size)
  generalize hAe : va_A (([] : va_W)) s.heap.size = A at hD hE ⊢
  have hA : ∀ q : Nat, s.heap.size ≤ q → A q := fun q h => by rw [← hAe]; exact Or.inr h
  have hS : va_S A s.heap s.heap [] := va_S.rf
  have hl := lv_entry ([.int p0]) (n := 1) (Nat.le_of_ble_eq_true rfl)
  have hent : entryFrame m args 1 = F0 m 0 ((lg_sl ([.int p0]) ++ List.replicate (1 - (lg_sl ([.int p0])).length) Slot.unset).toArray) [] := by rw [hargs, lg_entry_eq]
  rw [hent]
  clear hent
  generalize (lg_sl ([.int p0]) ++ List.replicate (1 - (lg_sl ([.int p0])).length) Slot.unset).toArray = ls at hl ⊢
  have hl : lv_has ls 1 [(0, .int p0)] := hl
  have fin : ∀ (pc : Nat) (v : Int32) (H : Heap) (locs : List Loc) (ls : Array Slot), some v = some out → va_P G.1 vwCl (([] : va_W)) H → va_D A (([] : va_W)) → va_S A s.heap H locs → decode cX6_kindOf pc = .ok (.ireturn, 1) → W p l e (headSpec wsX6_kindOf rm_X6_kindOf).room s m args below meth c H locs 0 0 (MQ below (QRo G (([] : va_W)) out A) args s 0 0 A) (F0 m pc ls [.int v]) := fun pc v H locs ls ho hP hD hS hd => W.iret (v := v) hx hb hr (fun t ht hW => ⟨⟨v, (), rfl, Option.some.inj ho, by first | (rw [ht]; exact hP) | (dsimp only; rw [ht]; exact hP)⟩, hS.F ht⟩) hS.2.2 hd
  generalize MQ below (QRo G (([] : va_W)) out A) args s 0 0 A = Q at fin ⊢
  have blk127 : f_X6_kindOf_b127 = some out → ∀ (H : Heap) (locs : List Loc), va_P G.1 vwCl (([] : va_W)) H → va_D A (([] : va_W)) → va_S A s.heap H locs → ∀ (ls : Array Slot), lv_has ls 1 [] → W p l e (headSpec wsX6_kindOf rm_X6_kindOf).room s m args below meth c H locs 0 0 Q (F0 m 127 ls []) := by
    intro hf H locs hP hD hS ls hl
    rw [f_X6_kindOf_b127] at hf
    refine lv_bipush (v := (-9)) hx hb dX6_kindOf_127 (by decide) ?_
    exact fin _ _ _ _ _ hf hP hD hS dX6_kindOf_129
  have go : ∀ (H : Heap) (locs : List Loc), va_P G.1 vwCl (([] : va_W)) H → va_D A (([] : va_W)) → va_S A s.heap H locs → ∀ (ls : Array Slot), lv_has ls 1 [(0, .int p0)] → W p l e (headSpec wsX6_kindOf rm_X6_kindOf).room s m args below meth c H locs 0 0 Q (F0 m 0 ls []) := by
    intro H locs hP hD hS ls hl
    refine lv_iload_n hx hb dX6_kindOf_0 rfl (lv_at hl 0 rfl) ?_
    by_cases c1_0 : p0 = 97
    · replace hf := ob_pos c1_0 hf
      refine lv_tableIn (x := p0) (off := 113) (tgt := 114) hx hb dX6_kindOf_1 (by rw [c1_0]; decide) (by rw [c1_0]; decide) (by rw [c1_0]; decide) (by decide) ?_
      refine lv_iconst (v := 1) hx hb dX6_kindOf_114 (by decide) ?_
      exact fin _ _ _ _ _ hf hP hD hS dX6_kindOf_115
    · replace hf := ob_neg c1_0 hf
      by_cases c1_1 : p0 = 98
      · replace hf := ob_pos c1_1 hf
        refine lv_tableIn (x := p0) (off := 126) (tgt := 127) hx hb dX6_kindOf_1 (by rw [c1_1]; decide) (by rw [c1_1]; decide) (by rw [c1_1]; decide) (by decide) ?_
        exact blk127  hf _ _ hP hD hS _ (lv_sub hl [] rfl)
      · replace hf := ob_neg c1_1 hf
        by_cases c1_2 : p0 = 99
        · replace hf := ob_pos c1_2 hf
          refine lv_tableIn (x := p0) (off := 111) (tgt := 112) hx hb dX6_kindOf_1 (by rw [c1_2]; decide) (by rw [c1_2]; decide) (by rw [c1_2]; decide) (by decide) ?_
          refine lv_iconst (v := 0) hx hb dX6_kindOf_112 (by decide) ?_
          exact fin _ _ _ _ _ hf hP hD hS dX6_kindOf_113
        · replace hf := ob_neg c1_2 hf
          by_cases c1_3 : p0 = 100
          · replace hf := ob_pos c1_3 hf
            refine lv_tableIn (x := p0) (off := 126) (tgt := 127) hx hb dX6_kindOf_1 (by rw [c1_3]; decide) (by rw [c1_3]; decide) (by rw [c1_3]; decide) (by decide) ?_
            exact blk127  hf _ _ hP hD hS _ (lv_sub hl [] rfl)
          · replace hf := ob_neg c1_3 hf
            by_cases c1_4 : p0 = 101
            · replace hf := ob_pos c1_4 hf
              refine lv_tableIn (x := p0) (off := 126) (tgt := 127) hx hb dX6_kindOf_1 (by rw [c1_4]; decide) (by rw [c1_4]; decide) (by rw [c1_4]; decide) (by decide) ?_
              exact blk127  hf _ _ hP hD hS _ (lv_sub hl [] rfl)
            · replace hf := ob_neg c1_4 hf
              by_cases c1_5 : p0 = 102
              · replace hf := ob_pos c1_5 hf
                refine lv_tableIn (x := p0) (off := 126) (tgt := 127) hx hb dX6_kindOf_1 (by rw [c1_5]; decide) (by rw [c1_5]; decide) (by rw [c1_5]; decide) (by decide) ?_
                exact blk127  hf _ _ hP hD hS _ (lv_sub hl [] rfl)
              · replace hf := ob_neg c1_5 hf
                by_cases c1_6 : p0 = 103
                · replace hf := ob_pos c1_6 hf
                  refine lv_tableIn (x := p0) (off := 126) (tgt := 127) hx hb dX6_kindOf_1 (by rw [c1_6]; decide) (by rw [c1_6]; decide) (by rw [c1_6]; decide) (by decide) ?_
                  exact blk127  hf _ _ hP hD hS _ (lv_sub hl [] rfl)
                · replace hf := ob_neg c1_6 hf
                  by_cases c1_7 : p0 = 104
                  · replace hf := ob_pos c1_7 hf
                    refine lv_tableIn (x := p0) (off := 126) (tgt := 127) hx hb dX6_kindOf_1 (by rw [c1_7]; decide) (by rw [c1_7]; decide) (by rw [c1_7]; decide) (by decide) ?_
                    exact blk127  hf _ _ hP hD hS _ (lv_sub hl [] rfl)
                  · replace hf := ob_neg c1_7 hf
                    by_cases c1_8 : p0 = 105
                    · replace hf := ob_pos c1_8 hf
                      refine lv_tableIn (x := p0) (off := 126) (tgt := 127) hx hb dX6_kindOf_1 (by rw [c1_8]; decide) (by rw [c1_8]; decide) (by rw [c1_8]; decide) (by decide) ?_
                      exact blk127  hf _ _ hP hD hS _ (lv_sub hl [] rfl)
                    · replace hf := ob_neg c1_8 hf
                      by_cases c1_9 : p0 = 106
                      · replace hf := ob_pos c1_9 hf
                        refine lv_tableIn (x := p0) (off := 126) (tgt := 127) hx hb dX6_kindOf_1 (by rw [c1_9]; decide) (by rw [c1_9]; decide) (by rw [c1_9]; decide) (by decide) ?_
                        exact blk127  hf _ _ hP hD hS _ (lv_sub hl [] rfl)
                      · replace hf := ob_neg c1_9 hf
                        by_cases c1_10 : p0 = 107
                        · replace hf := ob_pos c1_10 hf
                          refine lv_tableIn (x := p0) (off := 117) (tgt := 118) hx hb dX6_kindOf_1 (by rw [c1_10]; decide) (by rw [c1_10]; decide) (by rw [c1_10]; decide) (by decide) ?_
                          refine lv_iconst (v := 3) hx hb dX6_kindOf_118 (by decide) ?_
                          exact fin _ _ _ _ _ hf hP hD hS dX6_kindOf_119
                        · replace hf := ob_neg c1_10 hf
                          by_cases c1_11 : p0 = 108
                          · replace hf := ob_pos c1_11 hf
                            refine lv_tableIn (x := p0) (off := 126) (tgt := 127) hx hb dX6_kindOf_1 (by rw [c1_11]; decide) (by rw [c1_11]; decide) (by rw [c1_11]; decide) (by decide) ?_
                            exact blk127  hf _ _ hP hD hS _ (lv_sub hl [] rfl)
                          · replace hf := ob_neg c1_11 hf
                            by_cases c1_12 : p0 = 109
                            · replace hf := ob_pos c1_12 hf
                              refine lv_tableIn (x := p0) (off := 126) (tgt := 127) hx hb dX6_kindOf_1 (by rw [c1_12]; decide) (by rw [c1_12]; decide) (by rw [c1_12]; decide) (by decide) ?_
                              exact blk127  hf _ _ hP hD hS _ (lv_sub hl [] rfl)
                            · replace hf := ob_neg c1_12 hf
                              by_cases c1_13 : p0 = 110
                              · replace hf := ob_pos c1_13 hf
                                refine lv_tableIn (x := p0) (off := 123) (tgt := 124) hx hb dX6_kindOf_1 (by rw [c1_13]; decide) (by rw [c1_13]; decide) (by rw [c1_13]; decide) (by decide) ?_
                                refine lv_bipush (v := 6) hx hb dX6_kindOf_124 (by decide) ?_
                                exact fin _ _ _ _ _ hf hP hD hS dX6_kindOf_126
                              · replace hf := ob_neg c1_13 hf
                                by_cases c1_14 : p0 = 111
                                · replace hf := ob_pos c1_14 hf
                                  refine lv_tableIn (x := p0) (off := 126) (tgt := 127) hx hb dX6_kindOf_1 (by rw [c1_14]; decide) (by rw [c1_14]; decide) (by rw [c1_14]; decide) (by decide) ?_
                                  exact blk127  hf _ _ hP hD hS _ (lv_sub hl [] rfl)
                                · replace hf := ob_neg c1_14 hf
                                  by_cases c1_15 : p0 = 112
                                  · replace hf := ob_pos c1_15 hf
                                    refine lv_tableIn (x := p0) (off := 126) (tgt := 127) hx hb dX6_kindOf_1 (by rw [c1_15]; decide) (by rw [c1_15]; decide) (by rw [c1_15]; decide) (by decide) ?_
                                    exact blk127  hf _ _ hP hD hS _ (lv_sub hl [] rfl)
                                  · replace hf := ob_neg c1_15 hf
                                    by_cases c1_16 : p0 = 113
                                    · replace hf := ob_pos c1_16 hf
                                      refine lv_tableIn (x := p0) (off := 126) (tgt := 127) hx hb dX6_kindOf_1 (by rw [c1_16]; decide) (by rw [c1_16]; decide) (by rw [c1_16]; decide) (by decide) ?_
                                      exact blk127  hf _ _ hP hD hS _ (lv_sub hl [] rfl)
                                    · replace hf := ob_neg c1_16 hf
                                      by_cases c1_17 : p0 = 114
                                      · replace hf := ob_pos c1_17 hf
                                        refine lv_tableIn (x := p0) (off := 126) (tgt := 127) hx hb dX6_kindOf_1 (by rw [c1_17]; decide) (by rw [c1_17]; decide) (by rw [c1_17]; decide) (by decide) ?_
                                        exact blk127  hf _ _ hP hD hS _ (lv_sub hl [] rfl)
                                      · replace hf := ob_neg c1_17 hf
                                        by_cases c1_18 : p0 = 115
                                        · replace hf := ob_pos c1_18 hf
                                          refine lv_tableIn (x := p0) (off := 121) (tgt := 122) hx hb dX6_kindOf_1 (by rw [c1_18]; decide) (by rw [c1_18]; decide) (by rw [c1_18]; decide) (by decide) ?_
                                          refine lv_iconst (v := 5) hx hb dX6_kindOf_122 (by decide) ?_
                                          exact fin _ _ _ _ _ hf hP hD hS dX6_kindOf_123
                                        · replace hf := ob_neg c1_18 hf
                                          by_cases c1_19 : p0 = 116
                                          · replace hf := ob_pos c1_19 hf
                                            refine lv_tableIn (x := p0) (off := 126) (tgt := 127) hx hb dX6_kindOf_1 (by rw [c1_19]; decide) (by rw [c1_19]; decide) (by rw [c1_19]; decide) (by decide) ?_
                                            exact blk127  hf _ _ hP hD hS _ (lv_sub hl [] rfl)
                                          · replace hf := ob_neg c1_19 hf
                                            by_cases c1_20 : p0 = 117
                                            · replace hf := ob_pos c1_20 hf
                                              refine lv_tableIn (x := p0) (off := 126) (tgt := 127) hx hb dX6_kindOf_1 (by rw [c1_20]; decide) (by rw [c1_20]; decide) (by rw [c1_20]; decide) (by decide) ?_
                                              exact blk127  hf _ _ hP hD hS _ (lv_sub hl [] rfl)
                                            · replace hf := ob_neg c1_20 hf
                                              by_cases c1_21 : p0 = 118
                                              · replace hf := ob_pos c1_21 hf
                                                refine lv_tableIn (x := p0) (off := 126) (tgt := 127) hx hb dX6_kindOf_1 (by rw [c1_21]; decide) (by rw [c1_21]; decide) (by rw [c1_21]; decide) (by decide) ?_
                                                exact blk127  hf _ _ hP hD hS _ (lv_sub hl [] rfl)
                                              · replace hf := ob_neg c1_21 hf
                                                by_cases c1_22 : p0 = 119
                                                · replace hf := ob_pos c1_22 hf
                                                  refine lv_tableIn (x := p0) (off := 115) (tgt := 116) hx hb dX6_kindOf_1 (by rw [c1_22]; decide) (by rw [c1_22]; decide) (by rw [c1_22]; decide) (by decide) ?_
                                                  refine lv_iconst (v := 2) hx hb dX6_kindOf_116 (by decide) ?_
                                                  exact fin _ _ _ _ _ hf hP hD hS dX6_kindOf_117
                                                · replace hf := ob_neg c1_22 hf
                                                  by_cases c1_23 : p0 = 120
                                                  · replace hf := ob_pos c1_23 hf
                                                    refine lv_tableIn (x := p0) (off := 119) (tgt := 120) hx hb dX6_kindOf_1 (by rw [c1_23]; decide) (by rw [c1_23]; decide) (by rw [c1_23]; decide) (by decide) ?_
                                                    refine lv_iconst (v := 4) hx hb dX6_kindOf_120 (by decide) ?_
                                                    exact fin _ _ _ _ _ hf hP hD hS dX6_kindOf_121
                                                  · replace hf := ob_neg c1_23 hf
                                                    have tc1_0 := lv_neT (a := 97) c1_0 rfl
                                                    have tc1_1 := lv_neT (a := 98) c1_1 rfl
                                                    have tc1_2 := lv_neT (a := 99) c1_2 rfl
                                                    have tc1_3 := lv_neT (a := 100) c1_3 rfl
                                                    have tc1_4 := lv_neT (a := 101) c1_4 rfl
                                                    have tc1_5 := lv_neT (a := 102) c1_5 rfl
                                                    have tc1_6 := lv_neT (a := 103) c1_6 rfl
                                                    have tc1_7 := lv_neT (a := 104) c1_7 rfl
                                                    have tc1_8 := lv_neT (a := 105) c1_8 rfl
                                                    have tc1_9 := lv_neT (a := 106) c1_9 rfl
                                                    have tc1_10 := lv_neT (a := 107) c1_10 rfl
                                                    have tc1_11 := lv_neT (a := 108) c1_11 rfl
                                                    have tc1_12 := lv_neT (a := 109) c1_12 rfl
                                                    have tc1_13 := lv_neT (a := 110) c1_13 rfl
                                                    have tc1_14 := lv_neT (a := 111) c1_14 rfl
                                                    have tc1_15 := lv_neT (a := 112) c1_15 rfl
                                                    have tc1_16 := lv_neT (a := 113) c1_16 rfl
                                                    have tc1_17 := lv_neT (a := 114) c1_17 rfl
                                                    have tc1_18 := lv_neT (a := 115) c1_18 rfl
                                                    have tc1_19 := lv_neT (a := 116) c1_19 rfl
                                                    have tc1_20 := lv_neT (a := 117) c1_20 rfl
                                                    have tc1_21 := lv_neT (a := 118) c1_21 rfl
                                                    have tc1_22 := lv_neT (a := 119) c1_22 rfl
                                                    have tc1_23 := lv_neT (a := 120) c1_23 rfl
                                                    refine lv_tableOut (x := p0) (tgt := 127) hx hb dX6_kindOf_1 (by omega) (by decide) ?_
                                                    exact blk127  hf _ _ hP hD hS _ (lv_sub hl [] rfl)
  exact go _ _ hP hD hS _ hl
abbrev rm_X6_readsKind : Room := { frames := 2, cells := 0, slots := 0, locals := 44 }
set_option maxHeartbeats 4000000 in
set_option maxRecDepth 100000 in
theorem c_X6_readsKind (l : Launch) (G : zG) (a0 : AT_X6) (sz : Nat) (S0 : ST_X6) (out : Int32 × ST_X6) (hf : f_X6_readsKind S0 = some out) : Met l yX6_readsKind wsX6_readsKind rm_X6_readsKind (PcM G (ce_X6 G.2.1 a0 S0) [.ref a0.1] sz) (QWr G (fun u => ce_X6 G.2.1 a0 u) out (va_A (ce_X6 G.2.1 a0 S0) sz)) 0 0 (va_A (ce_X6 G.2.1 a0 S0) sz) := by
  rw [f_X6_readsKind] at hf
  refine Met.ofW (cc := cX6_readsKind) (maxL := 1) (ret := (some .boolean)) (by decide) rfl ?_
  intro p e s m args below meth c s₁ B hml hv
  obtain ⟨hargs, hsz, hP, hK, hD0, hE⟩ := hv
  have hx := B.exec
  have hb := B.bytes
  have hr := B.returns
  have hts := atoms_spec (ws := wsX6_readsKind) B.pre
  have hown : s.vm.findClass RX6 = some m.cls := findClass_of_methodNamed B.named
  have hlocks := B.notSynchronized
  subst hsz
  have hD := hD0.self (sz := s.heap.size)
  generalize hAe : va_A (ce_X6 G.2.1 a0 S0) s.heap.size = A at hD hE ⊢
  have hA : ∀ q : Nat, s.heap.size ≤ q → A q := fun q h => by rw [← hAe]; exact Or.inr h
  have hS : va_S A s.heap s.heap [] := va_S.rf
  have hl := lv_entry ([.ref a0.1]) (n := 1) (Nat.le_of_ble_eq_true rfl)
  have hent : entryFrame m args 1 = F0 m 0 ((lg_sl ([.ref a0.1]) ++ List.replicate (1 - (lg_sl ([.ref a0.1])).length) Slot.unset).toArray) [] := by rw [hargs, lg_entry_eq]
  rw [hent]
  clear hent
  generalize (lg_sl ([.ref a0.1]) ++ List.replicate (1 - (lg_sl ([.ref a0.1])).length) Slot.unset).toArray = ls at hl ⊢
  have hl : lv_has ls 1 [(0, .ref a0.1)] := hl
  have lk0 := hts (Cond.fieldLink RX6 25 "EnginesOnListModel" "told" "[I") (List.mem_of_getElem? (i := 1) rfl)
  have lk1 := hts (Cond.fieldLink RX6 53 "EnginesOnListModel" "at" "I") (List.mem_of_getElem? (i := 2) rfl)
  have hinX6 : ∀ w ∈ wsX60, w ∈ wsX6_readsKind := by decide +kernel
  have fin : ∀ (pc : Nat) (v : Int32) (u : ST_X6) (H : Heap) (locs : List Loc) (ls : Array Slot), some (v, u) = some out → narrow .boolean (.int v) = .int v → va_P G.1 vwCl (ce_X6 G.2.1 a0 u) H → va_D A (ce_X6 G.2.1 a0 u) → va_S A s.heap H locs → decode cX6_readsKind pc = .ok (.ireturn, 1) → W p l e (headSpec wsX6_readsKind rm_X6_readsKind).room s m args below meth c H locs 0 0 (MQ below (QWr G (fun u => ce_X6 G.2.1 a0 u) out A) args s 0 0 A) (F0 m pc ls [.int v]) := fun pc v u H locs ls ho hn hP hD hS hd => W.zret (v := v) hx hb hr hn (fun t ht hW => ⟨⟨v, u, rfl, ob_pair ho, by first | (rw [ht]; exact hP) | (dsimp only; rw [ht]; exact hP), hD⟩, hS.F ht⟩) hS.2.2 hd
  generalize MQ below (QWr G (fun u => ce_X6 G.2.1 a0 u) out A) args s 0 0 A = Q at fin ⊢
  have go : ∀ (H : Heap) (locs : List Loc), va_P G.1 vwCl (ce_X6 G.2.1 a0 S0) H → va_D A (ce_X6 G.2.1 a0 S0) → va_S A s.heap H locs → ∀ (ls : Array Slot), lv_has ls 1 [(0, .ref a0.1)] → W p l e (headSpec wsX6_readsKind rm_X6_readsKind).room s m args below meth c H locs 0 0 Q (F0 m 0 ls []) := by
    intro H locs hP hD hS ls hl
    refine lv_aload_n hx hb dX6_readsKind_0 rfl (lv_at hl 0 rfl) ?_
    refine va_get (D := G.1) (ci := 6) (v := .ref a0.2.2.2.2.2.2.1) (C := RX6) (T := TX6) (N := 14) hx hb hts hinX6 hown hK hP 0 rfl rfl 6 (by decide) lk0 (fun _ h9 => h9) rfl dX6_readsKind_1 ?_
    refine lv_iconst (v := 1) hx hb dX6_readsKind_4 (by decide) ?_
    refine lv_aload_n hx hb dX6_readsKind_5 rfl (lv_at hl 0 rfl) ?_
    obtain ⟨r1, hr1, hf⟩ := ob_bind hf
    have hFc := va_free (wc := ce_X6 G.2.1 a0 S0) hD hS hA [0, 1, 2, 3, 4, 5, 6, 7, 8, 9] rfl
    refine zc_ro (va_runV (As := []) (rest := [.int 1, .ref a0.2.2.2.2.2.2.1]) ⟨hx, hb, hml, hown, hts⟩ (c_X6_sign l G a0 H.size S0 _ hr1) (cwV 0 hts gX6_readsKind_X6_sign rfl rfl rfl (by decide +kernel) ⟨Nat.le_of_ble_eq_true rfl, Nat.le_of_ble_eq_true rfl⟩) ⟨PcM.blind, va_recv hK hP (ci := 6) (q0 := 0) rfl rfl, PcM.ok hP hD hK hE hS hFc⟩ rfl rfl hl.1 rfl (lv_room (Nat.le_of_ble_eq_true rfl)) dX6_readsKind_6 ⟨Nat.le_refl _, Nat.le_refl _⟩) hP hD hS hA [0, 1, 2, 3, 4, 5, 6, 7, 8, 9] rfl (fun H locs hP hS => ?_)
    obtain ⟨r2, hr2, hf⟩ := ob_bind hf
    have hPc : va_P G.1 vwCl (([] : va_W)) H := hP.sub [] rfl
    have hDc : va_D A (([] : va_W)) := hD.sub [] (by decide) rfl
    have hFc := va_free (wc := ([] : va_W)) hD hS hA [] rfl
    refine zc_ro (va_runS (As := [.int r1]) (rest := [.int 1, .ref a0.2.2.2.2.2.2.1]) ⟨hx, hb, hml, hown, hts⟩ (c_X6_kindOf l G H.size r1 _ hr2) (va_cwS 1 hts gX6_readsKind_X6_kindOf rfl rfl rfl (by decide +kernel) ⟨Nat.le_of_ble_eq_true rfl, Nat.le_of_ble_eq_true rfl⟩) ⟨PcM.blind, PcM.ok hPc hDc hK hE hS hFc⟩ rfl rfl hl.1 rfl (lv_room (Nat.le_of_ble_eq_true rfl)) dX6_readsKind_9 ⟨Nat.le_refl _, Nat.le_refl _⟩) hP hD hS hA [] rfl (fun H locs hP hS => ?_)
    refine va_iast hx hb hK hP hD hS 6 0 rfl rfl (by decide : inB 1 10) dX6_readsKind_12 (fun H locs hP hD hS => ?_)
    have hP : va_P G.1 vwCl (ce_X6 G.2.1 a0 (S0.1, S0.2.1, S0.2.2.1, S0.2.2.2.1, S0.2.2.2.2.1, S0.2.2.2.2.2.1, (upd S0.2.2.2.2.2.2.1 1 r2), S0.2.2.2.2.2.2.2.1, S0.2.2.2.2.2.2.2.2.1, S0.2.2.2.2.2.2.2.2.2.1, S0.2.2.2.2.2.2.2.2.2.2.1, S0.2.2.2.2.2.2.2.2.2.2.2.1, S0.2.2.2.2.2.2.2.2.2.2.2.2.1, S0.2.2.2.2.2.2.2.2.2.2.2.2.2)) H := hP
    have hD : va_D A (ce_X6 G.2.1 a0 (S0.1, S0.2.1, S0.2.2.1, S0.2.2.2.1, S0.2.2.2.2.1, S0.2.2.2.2.2.1, (upd S0.2.2.2.2.2.2.1 1 r2), S0.2.2.2.2.2.2.2.1, S0.2.2.2.2.2.2.2.2.1, S0.2.2.2.2.2.2.2.2.2.1, S0.2.2.2.2.2.2.2.2.2.2.1, S0.2.2.2.2.2.2.2.2.2.2.2.1, S0.2.2.2.2.2.2.2.2.2.2.2.2.1, S0.2.2.2.2.2.2.2.2.2.2.2.2.2)) := hD
    refine lv_aload_n hx hb dX6_readsKind_13 rfl (lv_at hl 0 rfl) ?_
    refine va_get (D := G.1) (ci := 6) (v := .ref a0.2.2.2.2.2.2.1) (C := RX6) (T := TX6) (N := 14) hx hb hts hinX6 hown hK hP 0 rfl rfl 6 (by decide) lk0 (fun _ h9 => h9) rfl dX6_readsKind_14 ?_
    refine lv_iconst (v := 1) hx hb dX6_readsKind_17 (by decide) ?_
    refine va_iald hx hb hK hP 6 0 rfl rfl (by decide : inB 1 10) dX6_readsKind_18 ?_
    refine zl_top (y := (upd S0.2.2.2.2.2.2.1 1 r2) 1) rfl ?_
    refine lv_if_ge (tgt := 24) hx hb dX6_readsKind_19 (by decide) (fun c3 => ?_) (fun c3 => ?_)
    · replace hf := ob_pos c3 hf
      refine lv_aload_n hx hb dX6_readsKind_24 rfl (lv_at hl 0 rfl) ?_
      refine lv_dup hx hb dX6_readsKind_25 rfl ?_
      refine va_get (D := G.1) (ci := 6) (v := .int S0.2.2.2.2.2.2.2.2.1) (C := RX6) (T := TX6) (N := 14) hx hb hts hinX6 hown hK hP 0 rfl rfl 8 (by decide) lk1 (fun _ h9 => h9) rfl dX6_readsKind_26 ?_
      refine lv_iconst (v := 1) hx hb dX6_readsKind_29 (by decide) ?_
      refine lv_iadd hx hb dX6_readsKind_30 ?_
      refine va_put (D := G.1) (ci := 6) (v := .int (S0.2.2.2.2.2.2.2.2.1 + 1)) (ty := .int) (C := RX6) (T := TX6) (N := 14) hx hb hts hinX6 tyX6 tyX6_ok nmX6 hown hK hP hD hS 0 rfl rfl 8 (by decide) lk1 (fun _ h9 => h9) rfl (by decide +kernel) rfl rfl (Nat.le_of_ble_eq_true rfl) dX6_readsKind_31 (fun H locs hP hD hS => ?_)
      have hP : va_P G.1 vwCl (ce_X6 G.2.1 a0 (S0.1, S0.2.1, S0.2.2.1, S0.2.2.2.1, S0.2.2.2.2.1, S0.2.2.2.2.2.1, (upd S0.2.2.2.2.2.2.1 1 r2), S0.2.2.2.2.2.2.2.1, S0.2.2.2.2.2.2.2.2.1 + 1, S0.2.2.2.2.2.2.2.2.2.1, S0.2.2.2.2.2.2.2.2.2.2.1, S0.2.2.2.2.2.2.2.2.2.2.2.1, S0.2.2.2.2.2.2.2.2.2.2.2.2.1, S0.2.2.2.2.2.2.2.2.2.2.2.2.2)) H := hP
      have hD : va_D A (ce_X6 G.2.1 a0 (S0.1, S0.2.1, S0.2.2.1, S0.2.2.2.1, S0.2.2.2.2.1, S0.2.2.2.2.2.1, (upd S0.2.2.2.2.2.2.1 1 r2), S0.2.2.2.2.2.2.2.1, S0.2.2.2.2.2.2.2.2.1 + 1, S0.2.2.2.2.2.2.2.2.2.1, S0.2.2.2.2.2.2.2.2.2.2.1, S0.2.2.2.2.2.2.2.2.2.2.2.1, S0.2.2.2.2.2.2.2.2.2.2.2.2.1, S0.2.2.2.2.2.2.2.2.2.2.2.2.2)) := hD
      refine lv_iconst (v := 1) hx hb dX6_readsKind_34 (by decide) ?_
      exact fin _ _ _ _ _ _ hf rfl hP hD hS dX6_readsKind_35
    · replace hf := ob_neg c3 hf
      refine lv_iconst (v := 0) hx hb dX6_readsKind_22 (by decide) ?_
      exact fin _ _ _ _ _ _ hf rfl hP hD hS dX6_readsKind_23
  exact go _ _ hP hD hS _ hl
abbrev rm_X6_readsEngine : Room := { frames := 3, cells := 0, slots := 0, locals := 68 }
set_option maxHeartbeats 4000000 in
set_option maxRecDepth 100000 in
theorem c_X6_readsEngine (l : Launch) (G : zG) (a0 : AT_X6) (sz : Nat) (S0 : ST_X6) (out : Int32 × ST_X6) (hf : f_X6_readsEngine S0 = some out) : Met l yX6_readsEngine wsX6_readsEngine rm_X6_readsEngine (PcM G (ce_X6 G.2.1 a0 S0) [.ref a0.1] sz) (QWr G (fun u => ce_X6 G.2.1 a0 u) out (va_A (ce_X6 G.2.1 a0 S0) sz)) 0 0 (va_A (ce_X6 G.2.1 a0 S0) sz) := by
  rw [f_X6_readsEngine] at hf
  refine Met.ofW (cc := cX6_readsEngine) (maxL := 2) (ret := (some .boolean)) (by decide) rfl ?_
  intro p e s m args below meth c s₁ B hml hv
  obtain ⟨hargs, hsz, hP, hK, hD0, hE⟩ := hv
  have hx := B.exec
  have hb := B.bytes
  have hr := B.returns
  have hts := atoms_spec (ws := wsX6_readsEngine) B.pre
  have hown : s.vm.findClass RX6 = some m.cls := findClass_of_methodNamed B.named
  have hlocks := B.notSynchronized
  subst hsz
  have hD := hD0.self (sz := s.heap.size)
  generalize hAe : va_A (ce_X6 G.2.1 a0 S0) s.heap.size = A at hD hE ⊢
  have hA : ∀ q : Nat, s.heap.size ≤ q → A q := fun q h => by rw [← hAe]; exact Or.inr h
  have hS : va_S A s.heap s.heap [] := va_S.rf
  have hl := lv_entry ([.ref a0.1]) (n := 2) (Nat.le_of_ble_eq_true rfl)
  have hent : entryFrame m args 2 = F0 m 0 ((lg_sl ([.ref a0.1]) ++ List.replicate (2 - (lg_sl ([.ref a0.1])).length) Slot.unset).toArray) [] := by rw [hargs, lg_entry_eq]
  rw [hent]
  clear hent
  generalize (lg_sl ([.ref a0.1]) ++ List.replicate (2 - (lg_sl ([.ref a0.1])).length) Slot.unset).toArray = ls at hl ⊢
  have hl : lv_has ls 2 [(0, .ref a0.1)] := hl
  have fin : ∀ (pc : Nat) (v : Int32) (u : ST_X6) (H : Heap) (locs : List Loc) (ls : Array Slot), some (v, u) = some out → narrow .boolean (.int v) = .int v → va_P G.1 vwCl (ce_X6 G.2.1 a0 u) H → va_D A (ce_X6 G.2.1 a0 u) → va_S A s.heap H locs → decode cX6_readsEngine pc = .ok (.ireturn, 1) → W p l e (headSpec wsX6_readsEngine rm_X6_readsEngine).room s m args below meth c H locs 0 0 (MQ below (QWr G (fun u => ce_X6 G.2.1 a0 u) out A) args s 0 0 A) (F0 m pc ls [.int v]) := fun pc v u H locs ls ho hn hP hD hS hd => W.zret (v := v) hx hb hr hn (fun t ht hW => ⟨⟨v, u, rfl, ob_pair ho, by first | (rw [ht]; exact hP) | (dsimp only; rw [ht]; exact hP), hD⟩, hS.F ht⟩) hS.2.2 hd
  generalize MQ below (QWr G (fun u => ce_X6 G.2.1 a0 u) out A) args s 0 0 A = Q at fin ⊢
  have blk25 : ∀ (S0 : ST_X6), f_X6_readsEngine_b25 S0 = some out → ∀ (H : Heap) (locs : List Loc), va_P G.1 vwCl (ce_X6 G.2.1 a0 S0) H → va_D A (ce_X6 G.2.1 a0 S0) → va_S A s.heap H locs → ∀ (ls : Array Slot), lv_has ls 2 [] → W p l e (headSpec wsX6_readsEngine rm_X6_readsEngine).room s m args below meth c H locs 0 0 Q (F0 m 25 ls []) := by
    intro S0 hf H locs hP hD hS ls hl
    rw [f_X6_readsEngine_b25] at hf
    refine lv_iconst (v := 0) hx hb dX6_readsEngine_25 (by decide) ?_
    exact fin _ _ _ _ _ _ hf rfl hP hD hS dX6_readsEngine_26
  have blk29 : ∀ (fu29 : Nat), ∀ (S0 : ST_X6) (v1 : Int32), f_X6_readsEngine_b29 fu29 S0 v1 = some out → ∀ (H : Heap) (locs : List Loc), va_P G.1 vwCl (ce_X6 G.2.1 a0 S0) H → va_D A (ce_X6 G.2.1 a0 S0) → va_S A s.heap H locs → ∀ (ls : Array Slot), lv_has ls 2 [(0, .ref a0.1), (1, .int v1)] → W p l e (headSpec wsX6_readsEngine rm_X6_readsEngine).room s m args below meth c H locs 0 0 Q (F0 m 29 ls []) := by
    intro fu29
    induction fu29 with
    | zero => intro S0 v1 hf; exact ob_none hf
    | succ fu29 ih29 =>
      intro S0 v1 hf H locs hP hD hS ls hl
      rw [f_X6_readsEngine_b29] at hf
      refine lv_iload_n hx hb dX6_readsEngine_29 rfl (lv_at hl 1 rfl) ?_
      refine lv_bipush (v := 7) hx hb dX6_readsEngine_30 (by decide) ?_
      refine lv_icmp_ge (tgt := 54) hx hb dX6_readsEngine_32 (by decide) (fun c1 => ?_) (fun c1 => ?_)
      · replace hf := ob_pos c1 hf
        refine lv_iconst (v := 1) hx hb dX6_readsEngine_54 (by decide) ?_
        exact fin _ _ _ _ _ _ hf rfl hP hD hS dX6_readsEngine_55
      · replace hf := ob_neg c1 hf
        refine lv_aload_n hx hb dX6_readsEngine_35 rfl (lv_at hl 0 rfl) ?_
        refine lv_iconst (v := 3) hx hb dX6_readsEngine_36 (by decide) ?_
        refine lv_iload_n hx hb dX6_readsEngine_37 rfl (lv_at hl 1 rfl) ?_
        refine lv_iadd hx hb dX6_readsEngine_38 ?_
        refine lv_iconst (v := 1) hx hb dX6_readsEngine_39 (by decide) ?_
        obtain ⟨r2, hr2, hf⟩ := ob_bind hf
        have hFc := va_free (wc := ce_X6 G.2.1 a0 S0) hD hS hA [0, 1, 2, 3, 4, 5, 6, 7, 8, 9] rfl
        refine zc_wr (cf := (fun u => ce_X6 G.2.1 a0 u)) (ws' := ce_X6 G.2.1 a0 r2.2) (va_runV (As := [.int (3 + v1), .int 1]) (rest := []) ⟨hx, hb, hml, hown, hts⟩ (c_X6_readsDigits l G a0 H.size S0 (3 + v1) 1 _ hr2) (cwV 2 hts gX6_readsEngine_X6_readsDigits rfl rfl rfl (by decide +kernel) ⟨Nat.le_of_ble_eq_true rfl, Nat.le_of_ble_eq_true rfl⟩) ⟨PcM.blind, va_recv hK hP (ci := 6) (q0 := 0) rfl rfl, PcM.ok hP hD hK hE hS hFc⟩ rfl rfl hl.1 rfl (lv_room (Nat.le_of_ble_eq_true rfl)) dX6_readsEngine_40 ⟨Nat.le_refl _, Nat.le_refl _⟩) hP hD hS hA [0, 1, 2, 3, 4, 5, 6, 7, 8, 9] [] [0, 1, 2, 3, 4, 5, 6, 7, 8, 9] rfl rfl (by decide) (by decide) (by decide) rfl (fun H locs hP hD hS => ?_)
        refine lv_if_ne (tgt := 48) hx hb dX6_readsEngine_43 (by decide) (fun c3 => ?_) (fun c3 => ?_)
        · replace hf := ob_neg c3 hf
          refine lv_iinc (v := v1 + 1) (lv' := [(1, .int (v1 + 1)), (0, .ref a0.1)]) hx hb dX6_readsEngine_48 hl (k := 1) rfl rfl (by decide) rfl (fun ls hl => ?_)
          refine lv_goto (tgt := 29) hx hb dX6_readsEngine_51 (by decide) ?_
          exact ih29 _ _ hf _ _ hP hD hS _ (lv_sub hl [1, 0] rfl)
        · replace hf := ob_pos c3 hf
          refine lv_iconst (v := 0) hx hb dX6_readsEngine_46 (by decide) ?_
          exact fin _ _ _ _ _ _ hf rfl hP hD hS dX6_readsEngine_47
  have go : ∀ (H : Heap) (locs : List Loc), va_P G.1 vwCl (ce_X6 G.2.1 a0 S0) H → va_D A (ce_X6 G.2.1 a0 S0) → va_S A s.heap H locs → ∀ (ls : Array Slot), lv_has ls 2 [(0, .ref a0.1)] → W p l e (headSpec wsX6_readsEngine rm_X6_readsEngine).room s m args below meth c H locs 0 0 Q (F0 m 0 ls []) := by
    intro H locs hP hD hS ls hl
    refine lv_aload_n hx hb dX6_readsEngine_0 rfl (lv_at hl 0 rfl) ?_
    refine lv_iconst (v := 0) hx hb dX6_readsEngine_1 (by decide) ?_
    refine lv_iconst (v := 2) hx hb dX6_readsEngine_2 (by decide) ?_
    obtain ⟨r4, hr4, hf⟩ := ob_bind hf
    have hFc := va_free (wc := ce_X6 G.2.1 a0 S0) hD hS hA [0, 1, 2, 3, 4, 5, 6, 7, 8, 9] rfl
    refine zc_wr (cf := (fun u => ce_X6 G.2.1 a0 u)) (ws' := ce_X6 G.2.1 a0 r4.2) (va_runV (As := [.int 0, .int 2]) (rest := []) ⟨hx, hb, hml, hown, hts⟩ (c_X6_readsDigits l G a0 H.size S0 0 2 _ hr4) (cwV 2 hts gX6_readsEngine_X6_readsDigits rfl rfl rfl (by decide +kernel) ⟨Nat.le_of_ble_eq_true rfl, Nat.le_of_ble_eq_true rfl⟩) ⟨PcM.blind, va_recv hK hP (ci := 6) (q0 := 0) rfl rfl, PcM.ok hP hD hK hE hS hFc⟩ rfl rfl hl.1 rfl (lv_room (Nat.le_of_ble_eq_true rfl)) dX6_readsEngine_3 ⟨Nat.le_refl _, Nat.le_refl _⟩) hP hD hS hA [0, 1, 2, 3, 4, 5, 6, 7, 8, 9] [] [0, 1, 2, 3, 4, 5, 6, 7, 8, 9] rfl rfl (by decide) (by decide) (by decide) rfl (fun H locs hP hD hS => ?_)
    refine lv_if_eq (tgt := 25) hx hb dX6_readsEngine_6 (by decide) (fun c5 => ?_) (fun c5 => ?_)
    · replace hf := ob_pos c5 hf
      exact blk25 _ hf _ _ hP hD hS _ (lv_sub hl [] rfl)
    · replace hf := ob_neg c5 hf
      refine lv_aload_n hx hb dX6_readsEngine_9 rfl (lv_at hl 0 rfl) ?_
      obtain ⟨r6, hr6, hf⟩ := ob_bind hf
      have hFc := va_free (wc := ce_X6 G.2.1 a0 r4.2) hD hS hA [0, 1, 2, 3, 4, 5, 6, 7, 8, 9] rfl
      refine zc_wr (cf := (fun u => ce_X6 G.2.1 a0 u)) (ws' := ce_X6 G.2.1 a0 r6.2) (va_runV (As := []) (rest := []) ⟨hx, hb, hml, hown, hts⟩ (c_X6_readsKind l G a0 H.size r4.2 _ hr6) (cwV 0 hts gX6_readsEngine_X6_readsKind rfl rfl rfl (by decide +kernel) ⟨Nat.le_of_ble_eq_true rfl, Nat.le_of_ble_eq_true rfl⟩) ⟨PcM.blind, va_recv hK hP (ci := 6) (q0 := 0) rfl rfl, PcM.ok hP hD hK hE hS hFc⟩ rfl rfl hl.1 rfl (lv_room (Nat.le_of_ble_eq_true rfl)) dX6_readsEngine_10 ⟨Nat.le_refl _, Nat.le_refl _⟩) hP hD hS hA [0, 1, 2, 3, 4, 5, 6, 7, 8, 9] [] [0, 1, 2, 3, 4, 5, 6, 7, 8, 9] rfl rfl (by decide) (by decide) (by decide) rfl (fun H locs hP hD hS => ?_)
      refine lv_if_eq (tgt := 25) hx hb dX6_readsEngine_13 (by decide) (fun c7 => ?_) (fun c7 => ?_)
      · replace hf := ob_pos c7 hf
        exact blk25 _ hf _ _ hP hD hS _ (lv_sub hl [] rfl)
      · replace hf := ob_neg c7 hf
        refine lv_aload_n hx hb dX6_readsEngine_16 rfl (lv_at hl 0 rfl) ?_
        refine lv_iconst (v := 2) hx hb dX6_readsEngine_17 (by decide) ?_
        refine lv_iconst (v := 1) hx hb dX6_readsEngine_18 (by decide) ?_
        obtain ⟨r8, hr8, hf⟩ := ob_bind hf
        have hFc := va_free (wc := ce_X6 G.2.1 a0 r6.2) hD hS hA [0, 1, 2, 3, 4, 5, 6, 7, 8, 9] rfl
        refine zc_wr (cf := (fun u => ce_X6 G.2.1 a0 u)) (ws' := ce_X6 G.2.1 a0 r8.2) (va_runV (As := [.int 2, .int 1]) (rest := []) ⟨hx, hb, hml, hown, hts⟩ (c_X6_readsDigits l G a0 H.size r6.2 2 1 _ hr8) (cwV 2 hts gX6_readsEngine_X6_readsDigits rfl rfl rfl (by decide +kernel) ⟨Nat.le_of_ble_eq_true rfl, Nat.le_of_ble_eq_true rfl⟩) ⟨PcM.blind, va_recv hK hP (ci := 6) (q0 := 0) rfl rfl, PcM.ok hP hD hK hE hS hFc⟩ rfl rfl hl.1 rfl (lv_room (Nat.le_of_ble_eq_true rfl)) dX6_readsEngine_19 ⟨Nat.le_refl _, Nat.le_refl _⟩) hP hD hS hA [0, 1, 2, 3, 4, 5, 6, 7, 8, 9] [] [0, 1, 2, 3, 4, 5, 6, 7, 8, 9] rfl rfl (by decide) (by decide) (by decide) rfl (fun H locs hP hD hS => ?_)
        refine lv_if_ne (tgt := 27) hx hb dX6_readsEngine_22 (by decide) (fun c9 => ?_) (fun c9 => ?_)
        · replace hf := ob_neg c9 hf
          refine lv_iconst (v := 0) hx hb dX6_readsEngine_27 (by decide) ?_
          refine lv_istore_n (lv' := [(1, .int 0), (0, .ref a0.1)]) hx hb dX6_readsEngine_28 rfl hl (by decide) rfl (fun ls hl => ?_)
          exact blk29 4096 _ _ hf _ _ hP hD hS _ (lv_sub hl [1, 0] rfl)
        · replace hf := ob_pos c9 hf
          exact blk25 _ hf _ _ hP hD hS _ (lv_sub hl [] rfl)
  exact go _ _ hP hD hS _ hl
abbrev rm_X6_readsStatement : Room := { frames := 4, cells := 0, slots := 0, locals := 89 }
set_option maxHeartbeats 4000000 in
set_option maxRecDepth 100000 in
theorem c_X6_readsStatement (l : Launch) (G : zG) (a0 : AT_X6) (sz : Nat) (S0 : ST_X6) (out : Int32 × ST_X6) (hf : f_X6_readsStatement S0 = some out) : Met l yX6_readsStatement wsX6_readsStatement rm_X6_readsStatement (PcM G (ce_X6 G.2.1 a0 S0) [.ref a0.1] sz) (QWr G (fun u => ce_X6 G.2.1 a0 u) out (va_A (ce_X6 G.2.1 a0 S0) sz)) 0 0 (va_A (ce_X6 G.2.1 a0 S0) sz) := by
  rw [f_X6_readsStatement] at hf
  refine Met.ofW (cc := cX6_readsStatement) (maxL := 3) (ret := (some .boolean)) (by decide) rfl ?_
  intro p e s m args below meth c s₁ B hml hv
  obtain ⟨hargs, hsz, hP, hK, hD0, hE⟩ := hv
  have hx := B.exec
  have hb := B.bytes
  have hr := B.returns
  have hts := atoms_spec (ws := wsX6_readsStatement) B.pre
  have hown : s.vm.findClass RX6 = some m.cls := findClass_of_methodNamed B.named
  have hlocks := B.notSynchronized
  subst hsz
  have hD := hD0.self (sz := s.heap.size)
  generalize hAe : va_A (ce_X6 G.2.1 a0 S0) s.heap.size = A at hD hE ⊢
  have hA : ∀ q : Nat, s.heap.size ≤ q → A q := fun q h => by rw [← hAe]; exact Or.inr h
  have hS : va_S A s.heap s.heap [] := va_S.rf
  have hl := lv_entry ([.ref a0.1]) (n := 3) (Nat.le_of_ble_eq_true rfl)
  have hent : entryFrame m args 3 = F0 m 0 ((lg_sl ([.ref a0.1]) ++ List.replicate (3 - (lg_sl ([.ref a0.1])).length) Slot.unset).toArray) [] := by rw [hargs, lg_entry_eq]
  rw [hent]
  clear hent
  generalize (lg_sl ([.ref a0.1]) ++ List.replicate (3 - (lg_sl ([.ref a0.1])).length) Slot.unset).toArray = ls at hl ⊢
  have hl : lv_has ls 3 [(0, .ref a0.1)] := hl
  have lk0 := hts (Cond.fieldLink RX6 53 "EnginesOnListModel" "at" "I") (List.mem_of_getElem? (i := 1) rfl)
  have hinX6 : ∀ w ∈ wsX60, w ∈ wsX6_readsStatement := by decide +kernel
  have fin : ∀ (pc : Nat) (v : Int32) (u : ST_X6) (H : Heap) (locs : List Loc) (ls : Array Slot), some (v, u) = some out → narrow .boolean (.int v) = .int v → va_P G.1 vwCl (ce_X6 G.2.1 a0 u) H → va_D A (ce_X6 G.2.1 a0 u) → va_S A s.heap H locs → decode cX6_readsStatement pc = .ok (.ireturn, 1) → W p l e (headSpec wsX6_readsStatement rm_X6_readsStatement).room s m args below meth c H locs 0 0 (MQ below (QWr G (fun u => ce_X6 G.2.1 a0 u) out A) args s 0 0 A) (F0 m pc ls [.int v]) := fun pc v u H locs ls ho hn hP hD hS hd => W.zret (v := v) hx hb hr hn (fun t ht hW => ⟨⟨v, u, rfl, ob_pair ho, by first | (rw [ht]; exact hP) | (dsimp only; rw [ht]; exact hP), hD⟩, hS.F ht⟩) hS.2.2 hd
  generalize MQ below (QWr G (fun u => ce_X6 G.2.1 a0 u) out A) args s 0 0 A = Q at fin ⊢
  have blk130 : ∀ (S0 : ST_X6), f_X6_readsStatement_b130 S0 = some out → ∀ (H : Heap) (locs : List Loc), va_P G.1 vwCl (ce_X6 G.2.1 a0 S0) H → va_D A (ce_X6 G.2.1 a0 S0) → va_S A s.heap H locs → ∀ (ls : Array Slot), lv_has ls 3 [] → W p l e (headSpec wsX6_readsStatement rm_X6_readsStatement).room s m args below meth c H locs 0 0 Q (F0 m 130 ls []) := by
    intro S0 hf H locs hP hD hS ls hl
    rw [f_X6_readsStatement_b130] at hf
    refine lv_iconst (v := 0) hx hb dX6_readsStatement_130 (by decide) ?_
    exact fin _ _ _ _ _ _ hf rfl hP hD hS dX6_readsStatement_131
  have blk117 : ∀ (S0 : ST_X6) (v2 : Int32), f_X6_readsStatement_b117 S0 v2 = some out → ∀ (H : Heap) (locs : List Loc), va_P G.1 vwCl (ce_X6 G.2.1 a0 S0) H → va_D A (ce_X6 G.2.1 a0 S0) → va_S A s.heap H locs → ∀ (ls : Array Slot), lv_has ls 3 [(0, .ref a0.1), (2, .int v2)] → W p l e (headSpec wsX6_readsStatement rm_X6_readsStatement).room s m args below meth c H locs 0 0 Q (F0 m 117 ls []) := by
    intro S0 v2 hf H locs hP hD hS ls hl
    rw [f_X6_readsStatement_b117] at hf
    refine lv_iload_n hx hb dX6_readsStatement_117 rfl (lv_at hl 1 rfl) ?_
    refine lv_if_eq (tgt := 130) hx hb dX6_readsStatement_118 (by decide) (fun c1 => ?_) (fun c1 => ?_)
    · replace hf := ob_pos c1 hf
      exact blk130 _ hf _ _ hP hD hS _ (lv_sub hl [] rfl)
    · replace hf := ob_neg c1 hf
      refine lv_aload_n hx hb dX6_readsStatement_121 rfl (lv_at hl 0 rfl) ?_
      obtain ⟨r2, hr2, hf⟩ := ob_bind hf
      have hFc := va_free (wc := ce_X6 G.2.1 a0 S0) hD hS hA [0, 1, 2, 3, 4, 5, 6, 7, 8, 9] rfl
      refine zc_ro (va_runV (As := []) (rest := []) ⟨hx, hb, hml, hown, hts⟩ (c_X6_sign l G a0 H.size S0 _ hr2) (cwV 0 hts gX6_readsStatement_X6_sign rfl rfl rfl (by decide +kernel) ⟨Nat.le_of_ble_eq_true rfl, Nat.le_of_ble_eq_true rfl⟩) ⟨PcM.blind, va_recv hK hP (ci := 6) (q0 := 0) rfl rfl, PcM.ok hP hD hK hE hS hFc⟩ rfl rfl hl.1 rfl (lv_room (Nat.le_of_ble_eq_true rfl)) dX6_readsStatement_122 ⟨Nat.le_refl _, Nat.le_refl _⟩) hP hD hS hA [0, 1, 2, 3, 4, 5, 6, 7, 8, 9] rfl (fun H locs hP hS => ?_)
      refine lv_bipush (v := 59) hx hb dX6_readsStatement_125 (by decide) ?_
      refine lv_icmp_eq (tgt := 132) hx hb dX6_readsStatement_127 (by decide) (fun c3 => ?_) (fun c3 => ?_)
      · replace hf := ob_pos c3 hf
        refine lv_aload_n hx hb dX6_readsStatement_132 rfl (lv_at hl 0 rfl) ?_
        refine lv_dup hx hb dX6_readsStatement_133 rfl ?_
        refine va_get (D := G.1) (ci := 6) (v := .int S0.2.2.2.2.2.2.2.2.1) (C := RX6) (T := TX6) (N := 14) hx hb hts hinX6 hown hK hP 0 rfl rfl 8 (by decide) lk0 (fun _ h9 => h9) rfl dX6_readsStatement_134 ?_
        refine lv_iconst (v := 1) hx hb dX6_readsStatement_137 (by decide) ?_
        refine lv_iadd hx hb dX6_readsStatement_138 ?_
        refine va_put (D := G.1) (ci := 6) (v := .int (S0.2.2.2.2.2.2.2.2.1 + 1)) (ty := .int) (C := RX6) (T := TX6) (N := 14) hx hb hts hinX6 tyX6 tyX6_ok nmX6 hown hK hP hD hS 0 rfl rfl 8 (by decide) lk0 (fun _ h9 => h9) rfl (by decide +kernel) rfl rfl (Nat.le_of_ble_eq_true rfl) dX6_readsStatement_139 (fun H locs hP hD hS => ?_)
        have hP : va_P G.1 vwCl (ce_X6 G.2.1 a0 (S0.1, S0.2.1, S0.2.2.1, S0.2.2.2.1, S0.2.2.2.2.1, S0.2.2.2.2.2.1, S0.2.2.2.2.2.2.1, S0.2.2.2.2.2.2.2.1, S0.2.2.2.2.2.2.2.2.1 + 1, S0.2.2.2.2.2.2.2.2.2.1, S0.2.2.2.2.2.2.2.2.2.2.1, S0.2.2.2.2.2.2.2.2.2.2.2.1, S0.2.2.2.2.2.2.2.2.2.2.2.2.1, S0.2.2.2.2.2.2.2.2.2.2.2.2.2)) H := hP
        have hD : va_D A (ce_X6 G.2.1 a0 (S0.1, S0.2.1, S0.2.2.1, S0.2.2.2.1, S0.2.2.2.2.1, S0.2.2.2.2.2.1, S0.2.2.2.2.2.2.1, S0.2.2.2.2.2.2.2.1, S0.2.2.2.2.2.2.2.2.1 + 1, S0.2.2.2.2.2.2.2.2.2.1, S0.2.2.2.2.2.2.2.2.2.2.1, S0.2.2.2.2.2.2.2.2.2.2.2.1, S0.2.2.2.2.2.2.2.2.2.2.2.2.1, S0.2.2.2.2.2.2.2.2.2.2.2.2.2)) := hD
        refine lv_iconst (v := 1) hx hb dX6_readsStatement_142 (by decide) ?_
        exact fin _ _ _ _ _ _ hf rfl hP hD hS dX6_readsStatement_143
      · replace hf := ob_neg c3 hf
        exact blk130 _ hf _ _ hP hD hS _ (lv_sub hl [] rfl)
  have blk95 : ∀ (S0 : ST_X6), f_X6_readsStatement_b95 S0 = some out → ∀ (H : Heap) (locs : List Loc), va_P G.1 vwCl (ce_X6 G.2.1 a0 S0) H → va_D A (ce_X6 G.2.1 a0 S0) → va_S A s.heap H locs → ∀ (ls : Array Slot), lv_has ls 3 [(0, .ref a0.1)] → W p l e (headSpec wsX6_readsStatement rm_X6_readsStatement).room s m args below meth c H locs 0 0 Q (F0 m 95 ls []) := by
    intro S0 hf H locs hP hD hS ls hl
    rw [f_X6_readsStatement_b95] at hf
    refine lv_aload_n hx hb dX6_readsStatement_95 rfl (lv_at hl 0 rfl) ?_
    refine lv_iconst (v := 0) hx hb dX6_readsStatement_96 (by decide) ?_
    refine lv_iconst (v := 2) hx hb dX6_readsStatement_97 (by decide) ?_
    obtain ⟨r4, hr4, hf⟩ := ob_bind hf
    have hFc := va_free (wc := ce_X6 G.2.1 a0 S0) hD hS hA [0, 1, 2, 3, 4, 5, 6, 7, 8, 9] rfl
    refine zc_wr (cf := (fun u => ce_X6 G.2.1 a0 u)) (ws' := ce_X6 G.2.1 a0 r4.2) (va_runV (As := [.int 0, .int 2]) (rest := []) ⟨hx, hb, hml, hown, hts⟩ (c_X6_readsDigits l G a0 H.size S0 0 2 _ hr4) (cwV 2 hts gX6_readsStatement_X6_readsDigits rfl rfl rfl (by decide +kernel) ⟨Nat.le_of_ble_eq_true rfl, Nat.le_of_ble_eq_true rfl⟩) ⟨PcM.blind, va_recv hK hP (ci := 6) (q0 := 0) rfl rfl, PcM.ok hP hD hK hE hS hFc⟩ rfl rfl hl.1 rfl (lv_room (Nat.le_of_ble_eq_true rfl)) dX6_readsStatement_98 ⟨Nat.le_refl _, Nat.le_refl _⟩) hP hD hS hA [0, 1, 2, 3, 4, 5, 6, 7, 8, 9] [] [0, 1, 2, 3, 4, 5, 6, 7, 8, 9] rfl rfl (by decide) (by decide) (by decide) rfl (fun H locs hP hD hS => ?_)
    refine lv_istore_n (lv' := [(2, .int r4.1), (0, .ref a0.1)]) hx hb dX6_readsStatement_101 rfl hl (by decide) rfl (fun ls hl => ?_)
    refine lv_goto (tgt := 117) hx hb dX6_readsStatement_102 (by decide) ?_
    exact blk117 _ _ hf _ _ hP hD hS _ (lv_sub hl [1, 0] rfl)
  have blk91 : ∀ (S0 : ST_X6) (w0 : Int32), f_X6_readsStatement_b91 S0 w0 = some out → ∀ (H : Heap) (locs : List Loc), va_P G.1 vwCl (ce_X6 G.2.1 a0 S0) H → va_D A (ce_X6 G.2.1 a0 S0) → va_S A s.heap H locs → ∀ (ls : Array Slot), lv_has ls 3 [(0, .ref a0.1)] → W p l e (headSpec wsX6_readsStatement rm_X6_readsStatement).room s m args below meth c H locs 0 0 Q (F0 m 91 ls [.int w0]) := by
    intro S0 w0 hf H locs hP hD hS ls hl
    rw [f_X6_readsStatement_b91] at hf
    refine lv_istore_n (lv' := [(2, .int w0), (0, .ref a0.1)]) hx hb dX6_readsStatement_91 rfl hl (by decide) rfl (fun ls hl => ?_)
    refine lv_goto (tgt := 117) hx hb dX6_readsStatement_92 (by decide) ?_
    exact blk117 _ _ hf _ _ hP hD hS _ (lv_sub hl [1, 0] rfl)
  have blk90 : ∀ (S0 : ST_X6), f_X6_readsStatement_b90 S0 = some out → ∀ (H : Heap) (locs : List Loc), va_P G.1 vwCl (ce_X6 G.2.1 a0 S0) H → va_D A (ce_X6 G.2.1 a0 S0) → va_S A s.heap H locs → ∀ (ls : Array Slot), lv_has ls 3 [(0, .ref a0.1)] → W p l e (headSpec wsX6_readsStatement rm_X6_readsStatement).room s m args below meth c H locs 0 0 Q (F0 m 90 ls []) := by
    intro S0 hf H locs hP hD hS ls hl
    rw [f_X6_readsStatement_b90] at hf
    refine lv_iconst (v := 0) hx hb dX6_readsStatement_90 (by decide) ?_
    exact blk91 _ _ hf _ _ hP hD hS _ (lv_sub hl [0] rfl)
  have go : ∀ (H : Heap) (locs : List Loc), va_P G.1 vwCl (ce_X6 G.2.1 a0 S0) H → va_D A (ce_X6 G.2.1 a0 S0) → va_S A s.heap H locs → ∀ (ls : Array Slot), lv_has ls 3 [(0, .ref a0.1)] → W p l e (headSpec wsX6_readsStatement rm_X6_readsStatement).room s m args below meth c H locs 0 0 Q (F0 m 0 ls []) := by
    intro H locs hP hD hS ls hl
    refine lv_aload_n hx hb dX6_readsStatement_0 rfl (lv_at hl 0 rfl) ?_
    obtain ⟨r5, hr5, hf⟩ := ob_bind hf
    have hFc := va_free (wc := ce_X6 G.2.1 a0 S0) hD hS hA [0, 1, 2, 3, 4, 5, 6, 7, 8, 9] rfl
    refine zc_ro (va_runV (As := []) (rest := []) ⟨hx, hb, hml, hown, hts⟩ (c_X6_sign l G a0 H.size S0 _ hr5) (cwV 0 hts gX6_readsStatement_X6_sign rfl rfl rfl (by decide +kernel) ⟨Nat.le_of_ble_eq_true rfl, Nat.le_of_ble_eq_true rfl⟩) ⟨PcM.blind, va_recv hK hP (ci := 6) (q0 := 0) rfl rfl, PcM.ok hP hD hK hE hS hFc⟩ rfl rfl hl.1 rfl (lv_room (Nat.le_of_ble_eq_true rfl)) dX6_readsStatement_1 ⟨Nat.le_refl _, Nat.le_refl _⟩) hP hD hS hA [0, 1, 2, 3, 4, 5, 6, 7, 8, 9] rfl (fun H locs hP hS => ?_)
    refine lv_istore_n (lv' := [(1, .int r5), (0, .ref a0.1)]) hx hb dX6_readsStatement_4 rfl hl (by decide) rfl (fun ls hl => ?_)
    refine lv_iconst (v := 0) hx hb dX6_readsStatement_5 (by decide) ?_
    refine lv_istore_n (lv' := [(2, .int 0), (1, .int r5), (0, .ref a0.1)]) hx hb dX6_readsStatement_6 rfl hl (by decide) rfl (fun ls hl => ?_)
    refine lv_aload_n hx hb dX6_readsStatement_7 rfl (lv_at hl 2 rfl) ?_
    refine lv_dup hx hb dX6_readsStatement_8 rfl ?_
    refine va_get (D := G.1) (ci := 6) (v := .int S0.2.2.2.2.2.2.2.2.1) (C := RX6) (T := TX6) (N := 14) hx hb hts hinX6 hown hK hP 0 rfl rfl 8 (by decide) lk0 (fun _ h9 => h9) rfl dX6_readsStatement_9 ?_
    refine lv_iconst (v := 1) hx hb dX6_readsStatement_12 (by decide) ?_
    refine lv_iadd hx hb dX6_readsStatement_13 ?_
    refine va_put (D := G.1) (ci := 6) (v := .int (S0.2.2.2.2.2.2.2.2.1 + 1)) (ty := .int) (C := RX6) (T := TX6) (N := 14) hx hb hts hinX6 tyX6 tyX6_ok nmX6 hown hK hP hD hS 0 rfl rfl 8 (by decide) lk0 (fun _ h9 => h9) rfl (by decide +kernel) rfl rfl (Nat.le_of_ble_eq_true rfl) dX6_readsStatement_14 (fun H locs hP hD hS => ?_)
    have hP : va_P G.1 vwCl (ce_X6 G.2.1 a0 (S0.1, S0.2.1, S0.2.2.1, S0.2.2.2.1, S0.2.2.2.2.1, S0.2.2.2.2.2.1, S0.2.2.2.2.2.2.1, S0.2.2.2.2.2.2.2.1, S0.2.2.2.2.2.2.2.2.1 + 1, S0.2.2.2.2.2.2.2.2.2.1, S0.2.2.2.2.2.2.2.2.2.2.1, S0.2.2.2.2.2.2.2.2.2.2.2.1, S0.2.2.2.2.2.2.2.2.2.2.2.2.1, S0.2.2.2.2.2.2.2.2.2.2.2.2.2)) H := hP
    have hD : va_D A (ce_X6 G.2.1 a0 (S0.1, S0.2.1, S0.2.2.1, S0.2.2.2.1, S0.2.2.2.2.1, S0.2.2.2.2.2.1, S0.2.2.2.2.2.2.1, S0.2.2.2.2.2.2.2.1, S0.2.2.2.2.2.2.2.2.1 + 1, S0.2.2.2.2.2.2.2.2.2.1, S0.2.2.2.2.2.2.2.2.2.2.1, S0.2.2.2.2.2.2.2.2.2.2.2.1, S0.2.2.2.2.2.2.2.2.2.2.2.2.1, S0.2.2.2.2.2.2.2.2.2.2.2.2.2)) := hD
    refine lv_iload_n hx hb dX6_readsStatement_17 rfl (lv_at hl 1 rfl) ?_
    by_cases c6_0 : r5 = 101
    · replace hf := ob_pos c6_0 hf
      refine lv_lookup (x := r5) (off := 42) (tgt := 60) hx hb dX6_readsStatement_18 (by decide) (by rw [c6_0]; decide) (by decide) ?_
      refine lv_aload_n hx hb dX6_readsStatement_60 rfl (lv_at hl 2 rfl) ?_
      obtain ⟨r7, hr7, hf⟩ := ob_bind hf
      have hFc := va_free (wc := ce_X6 G.2.1 a0 (S0.1, S0.2.1, S0.2.2.1, S0.2.2.2.1, S0.2.2.2.2.1, S0.2.2.2.2.2.1, S0.2.2.2.2.2.2.1, S0.2.2.2.2.2.2.2.1, S0.2.2.2.2.2.2.2.2.1 + 1, S0.2.2.2.2.2.2.2.2.2.1, S0.2.2.2.2.2.2.2.2.2.2.1, S0.2.2.2.2.2.2.2.2.2.2.2.1, S0.2.2.2.2.2.2.2.2.2.2.2.2.1, S0.2.2.2.2.2.2.2.2.2.2.2.2.2)) hD hS hA [0, 1, 2, 3, 4, 5, 6, 7, 8, 9] rfl
      refine zc_wr (cf := (fun u => ce_X6 G.2.1 a0 u)) (ws' := ce_X6 G.2.1 a0 r7.2) (va_runV (As := []) (rest := []) ⟨hx, hb, hml, hown, hts⟩ (c_X6_readsEngine l G a0 H.size (S0.1, S0.2.1, S0.2.2.1, S0.2.2.2.1, S0.2.2.2.2.1, S0.2.2.2.2.2.1, S0.2.2.2.2.2.2.1, S0.2.2.2.2.2.2.2.1, S0.2.2.2.2.2.2.2.2.1 + 1, S0.2.2.2.2.2.2.2.2.2.1, S0.2.2.2.2.2.2.2.2.2.2.1, S0.2.2.2.2.2.2.2.2.2.2.2.1, S0.2.2.2.2.2.2.2.2.2.2.2.2.1, S0.2.2.2.2.2.2.2.2.2.2.2.2.2) _ hr7) (cwV 0 hts gX6_readsStatement_X6_readsEngine rfl rfl rfl (by decide +kernel) ⟨Nat.le_of_ble_eq_true rfl, Nat.le_of_ble_eq_true rfl⟩) ⟨PcM.blind, va_recv hK hP (ci := 6) (q0 := 0) rfl rfl, PcM.ok hP hD hK hE hS hFc⟩ rfl rfl hl.1 rfl (lv_room (Nat.le_of_ble_eq_true rfl)) dX6_readsStatement_61 ⟨Nat.le_refl _, Nat.le_refl _⟩) hP hD hS hA [0, 1, 2, 3, 4, 5, 6, 7, 8, 9] [] [0, 1, 2, 3, 4, 5, 6, 7, 8, 9] rfl rfl (by decide) (by decide) (by decide) rfl (fun H locs hP hD hS => ?_)
      refine lv_istore_n (lv' := [(2, .int r7.1), (1, .int r5), (0, .ref a0.1)]) hx hb dX6_readsStatement_64 rfl hl (by decide) rfl (fun ls hl => ?_)
      refine lv_goto (tgt := 117) hx hb dX6_readsStatement_65 (by decide) ?_
      exact blk117 _ _ hf _ _ hP hD hS _ (lv_sub hl [2, 0] rfl)
    · replace hf := ob_neg c6_0 hf
      by_cases c6_1 : r5 = 102
      · replace hf := ob_pos c6_1 hf
        refine lv_lookup (x := r5) (off := 77) (tgt := 95) hx hb dX6_readsStatement_18 (by decide) (by rw [c6_1]; decide) (by decide) ?_
        exact blk95 _ hf _ _ hP hD hS _ (lv_sub hl [2] rfl)
      · replace hf := ob_neg c6_1 hf
        by_cases c6_2 : r5 = 106
        · replace hf := ob_pos c6_2 hf
          refine lv_lookup (x := r5) (off := 50) (tgt := 68) hx hb dX6_readsStatement_18 (by decide) (by rw [c6_2]; decide) (by decide) ?_
          refine lv_aload_n hx hb dX6_readsStatement_68 rfl (lv_at hl 2 rfl) ?_
          refine lv_iconst (v := 0) hx hb dX6_readsStatement_69 (by decide) ?_
          refine lv_iconst (v := 2) hx hb dX6_readsStatement_70 (by decide) ?_
          obtain ⟨r8, hr8, hf⟩ := ob_bind hf
          have hFc := va_free (wc := ce_X6 G.2.1 a0 (S0.1, S0.2.1, S0.2.2.1, S0.2.2.2.1, S0.2.2.2.2.1, S0.2.2.2.2.2.1, S0.2.2.2.2.2.2.1, S0.2.2.2.2.2.2.2.1, S0.2.2.2.2.2.2.2.2.1 + 1, S0.2.2.2.2.2.2.2.2.2.1, S0.2.2.2.2.2.2.2.2.2.2.1, S0.2.2.2.2.2.2.2.2.2.2.2.1, S0.2.2.2.2.2.2.2.2.2.2.2.2.1, S0.2.2.2.2.2.2.2.2.2.2.2.2.2)) hD hS hA [0, 1, 2, 3, 4, 5, 6, 7, 8, 9] rfl
          refine zc_wr (cf := (fun u => ce_X6 G.2.1 a0 u)) (ws' := ce_X6 G.2.1 a0 r8.2) (va_runV (As := [.int 0, .int 2]) (rest := []) ⟨hx, hb, hml, hown, hts⟩ (c_X6_readsDigits l G a0 H.size (S0.1, S0.2.1, S0.2.2.1, S0.2.2.2.1, S0.2.2.2.2.1, S0.2.2.2.2.2.1, S0.2.2.2.2.2.2.1, S0.2.2.2.2.2.2.2.1, S0.2.2.2.2.2.2.2.2.1 + 1, S0.2.2.2.2.2.2.2.2.2.1, S0.2.2.2.2.2.2.2.2.2.2.1, S0.2.2.2.2.2.2.2.2.2.2.2.1, S0.2.2.2.2.2.2.2.2.2.2.2.2.1, S0.2.2.2.2.2.2.2.2.2.2.2.2.2) 0 2 _ hr8) (cwV 2 hts gX6_readsStatement_X6_readsDigits rfl rfl rfl (by decide +kernel) ⟨Nat.le_of_ble_eq_true rfl, Nat.le_of_ble_eq_true rfl⟩) ⟨PcM.blind, va_recv hK hP (ci := 6) (q0 := 0) rfl rfl, PcM.ok hP hD hK hE hS hFc⟩ rfl rfl hl.1 rfl (lv_room (Nat.le_of_ble_eq_true rfl)) dX6_readsStatement_71 ⟨Nat.le_refl _, Nat.le_refl _⟩) hP hD hS hA [0, 1, 2, 3, 4, 5, 6, 7, 8, 9] [] [0, 1, 2, 3, 4, 5, 6, 7, 8, 9] rfl rfl (by decide) (by decide) (by decide) rfl (fun H locs hP hD hS => ?_)
          refine lv_if_eq (tgt := 90) hx hb dX6_readsStatement_74 (by decide) (fun c9 => ?_) (fun c9 => ?_)
          · replace hf := ob_pos c9 hf
            exact blk90 _ hf _ _ hP hD hS _ (lv_sub hl [2] rfl)
          · replace hf := ob_neg c9 hf
            refine lv_aload_n hx hb dX6_readsStatement_77 rfl (lv_at hl 2 rfl) ?_
            refine lv_iconst (v := 1) hx hb dX6_readsStatement_78 (by decide) ?_
            refine lv_iconst (v := 2) hx hb dX6_readsStatement_79 (by decide) ?_
            obtain ⟨r10, hr10, hf⟩ := ob_bind hf
            have hFc := va_free (wc := ce_X6 G.2.1 a0 r8.2) hD hS hA [0, 1, 2, 3, 4, 5, 6, 7, 8, 9] rfl
            refine zc_wr (cf := (fun u => ce_X6 G.2.1 a0 u)) (ws' := ce_X6 G.2.1 a0 r10.2) (va_runV (As := [.int 1, .int 2]) (rest := []) ⟨hx, hb, hml, hown, hts⟩ (c_X6_readsDigits l G a0 H.size r8.2 1 2 _ hr10) (cwV 2 hts gX6_readsStatement_X6_readsDigits rfl rfl rfl (by decide +kernel) ⟨Nat.le_of_ble_eq_true rfl, Nat.le_of_ble_eq_true rfl⟩) ⟨PcM.blind, va_recv hK hP (ci := 6) (q0 := 0) rfl rfl, PcM.ok hP hD hK hE hS hFc⟩ rfl rfl hl.1 rfl (lv_room (Nat.le_of_ble_eq_true rfl)) dX6_readsStatement_80 ⟨Nat.le_refl _, Nat.le_refl _⟩) hP hD hS hA [0, 1, 2, 3, 4, 5, 6, 7, 8, 9] [] [0, 1, 2, 3, 4, 5, 6, 7, 8, 9] rfl rfl (by decide) (by decide) (by decide) rfl (fun H locs hP hD hS => ?_)
            refine lv_if_eq (tgt := 90) hx hb dX6_readsStatement_83 (by decide) (fun c11 => ?_) (fun c11 => ?_)
            · replace hf := ob_pos c11 hf
              exact blk90 _ hf _ _ hP hD hS _ (lv_sub hl [2] rfl)
            · replace hf := ob_neg c11 hf
              refine lv_iconst (v := 1) hx hb dX6_readsStatement_86 (by decide) ?_
              refine lv_goto (tgt := 91) hx hb dX6_readsStatement_87 (by decide) ?_
              exact blk91 _ _ hf _ _ hP hD hS _ (lv_sub hl [2] rfl)
        · replace hf := ob_neg c6_2 hf
          by_cases c6_3 : r5 = 117
          · replace hf := ob_pos c6_3 hf
            refine lv_lookup (x := r5) (off := 77) (tgt := 95) hx hb dX6_readsStatement_18 (by decide) (by rw [c6_3]; decide) (by decide) ?_
            exact blk95 _ hf _ _ hP hD hS _ (lv_sub hl [2] rfl)
          · replace hf := ob_neg c6_3 hf
            refine lv_lookup (x := r5) (off := 87) (tgt := 105) hx hb dX6_readsStatement_18 (by decide) (by show Op.lookupswitch.offset [(101, 42), (102, 77), (106, 50), (117, 77)] _ _ = _; rw [lv_osw (a := 101) c6_0 rfl, lv_osw (a := 102) c6_1 rfl, lv_osw (a := 106) c6_2 rfl, lv_osw (a := 117) c6_3 rfl]; rfl) (by decide) ?_
            refine lv_aload_n hx hb dX6_readsStatement_105 rfl (lv_at hl 2 rfl) ?_
            refine lv_dup hx hb dX6_readsStatement_106 rfl ?_
            refine va_get (D := G.1) (ci := 6) (v := .int (S0.2.2.2.2.2.2.2.2.1 + 1)) (C := RX6) (T := TX6) (N := 14) hx hb hts hinX6 hown hK hP 0 rfl rfl 8 (by decide) lk0 (fun _ h9 => h9) rfl dX6_readsStatement_107 ?_
            refine lv_iconst (v := 1) hx hb dX6_readsStatement_110 (by decide) ?_
            refine lv_isub hx hb dX6_readsStatement_111 ?_
            refine va_put (D := G.1) (ci := 6) (v := .int ((S0.2.2.2.2.2.2.2.2.1 + 1) - 1)) (ty := .int) (C := RX6) (T := TX6) (N := 14) hx hb hts hinX6 tyX6 tyX6_ok nmX6 hown hK hP hD hS 0 rfl rfl 8 (by decide) lk0 (fun _ h9 => h9) rfl (by decide +kernel) rfl rfl (Nat.le_of_ble_eq_true rfl) dX6_readsStatement_112 (fun H locs hP hD hS => ?_)
            have hP : va_P G.1 vwCl (ce_X6 G.2.1 a0 (S0.1, S0.2.1, S0.2.2.1, S0.2.2.2.1, S0.2.2.2.2.1, S0.2.2.2.2.2.1, S0.2.2.2.2.2.2.1, S0.2.2.2.2.2.2.2.1, (S0.2.2.2.2.2.2.2.2.1 + 1) - 1, S0.2.2.2.2.2.2.2.2.2.1, S0.2.2.2.2.2.2.2.2.2.2.1, S0.2.2.2.2.2.2.2.2.2.2.2.1, S0.2.2.2.2.2.2.2.2.2.2.2.2.1, S0.2.2.2.2.2.2.2.2.2.2.2.2.2)) H := hP
            have hD : va_D A (ce_X6 G.2.1 a0 (S0.1, S0.2.1, S0.2.2.1, S0.2.2.2.1, S0.2.2.2.2.1, S0.2.2.2.2.2.1, S0.2.2.2.2.2.2.1, S0.2.2.2.2.2.2.2.1, (S0.2.2.2.2.2.2.2.2.1 + 1) - 1, S0.2.2.2.2.2.2.2.2.2.1, S0.2.2.2.2.2.2.2.2.2.2.1, S0.2.2.2.2.2.2.2.2.2.2.2.1, S0.2.2.2.2.2.2.2.2.2.2.2.2.1, S0.2.2.2.2.2.2.2.2.2.2.2.2.2)) := hD
            refine lv_iconst (v := 0) hx hb dX6_readsStatement_115 (by decide) ?_
            exact fin _ _ _ _ _ _ hf rfl hP hD hS dX6_readsStatement_116
  exact go _ _ hP hD hS _ hl
abbrev rm_X6_numbered : Room := { frames := 1, cells := 0, slots := 0, locals := 24 }
set_option maxHeartbeats 4000000 in
set_option maxRecDepth 100000 in
theorem c_X6_numbered (l : Launch) (G : zG) (a0 : AT_X6) (sz : Nat) (S0 : ST_X6) (p1 : Int32) (out : Int32) (hf : f_X6_numbered S0 p1 = some out) : Met l yX6_numbered wsX6_numbered rm_X6_numbered (PcM G (ce_X6 G.2.1 a0 S0) [.ref a0.1, .int p1] sz) (QRo G (ce_X6 G.2.1 a0 S0) out (va_A (ce_X6 G.2.1 a0 S0) sz)) 0 0 (va_A (ce_X6 G.2.1 a0 S0) sz) := by
  rw [f_X6_numbered] at hf
  refine Met.ofW (cc := cX6_numbered) (maxL := 3) (ret := (some .int)) (by decide) rfl ?_
  intro p e s m args below meth c s₁ B hml hv
  obtain ⟨hargs, hsz, hP, hK, hD0, hE⟩ := hv
  have hx := B.exec
  have hb := B.bytes
  have hr := B.returns
  have hts := atoms_spec (ws := wsX6_numbered) B.pre
  have hown : s.vm.findClass RX6 = some m.cls := findClass_of_methodNamed B.named
  have hlocks := B.notSynchronized
  subst hsz
  have hD := hD0.self (sz := s.heap.size)
  generalize hAe : va_A (ce_X6 G.2.1 a0 S0) s.heap.size = A at hD hE ⊢
  have hA : ∀ q : Nat, s.heap.size ≤ q → A q := fun q h => by rw [← hAe]; exact Or.inr h
  have hS : va_S A s.heap s.heap [] := va_S.rf
  have hl := lv_entry ([.ref a0.1, .int p1]) (n := 3) (Nat.le_of_ble_eq_true rfl)
  have hent : entryFrame m args 3 = F0 m 0 ((lg_sl ([.ref a0.1, .int p1]) ++ List.replicate (3 - (lg_sl ([.ref a0.1, .int p1])).length) Slot.unset).toArray) [] := by rw [hargs, lg_entry_eq]
  rw [hent]
  clear hent
  generalize (lg_sl ([.ref a0.1, .int p1]) ++ List.replicate (3 - (lg_sl ([.ref a0.1, .int p1])).length) Slot.unset).toArray = ls at hl ⊢
  have hl : lv_has ls 3 [(0, .ref a0.1), (1, .int p1)] := hl
  have lk0 := hts (Cond.fieldLink RX6 19 "EnginesOnListModel" "read" "[I") (List.mem_of_getElem? (i := 1) rfl)
  have hinX6 : ∀ w ∈ wsX60, w ∈ wsX6_numbered := by decide +kernel
  have fin : ∀ (pc : Nat) (v : Int32) (H : Heap) (locs : List Loc) (ls : Array Slot), some v = some out → va_P G.1 vwCl (ce_X6 G.2.1 a0 S0) H → va_D A (ce_X6 G.2.1 a0 S0) → va_S A s.heap H locs → decode cX6_numbered pc = .ok (.ireturn, 1) → W p l e (headSpec wsX6_numbered rm_X6_numbered).room s m args below meth c H locs 0 0 (MQ below (QRo G (ce_X6 G.2.1 a0 S0) out A) args s 0 0 A) (F0 m pc ls [.int v]) := fun pc v H locs ls ho hP hD hS hd => W.iret (v := v) hx hb hr (fun t ht hW => ⟨⟨v, (), rfl, Option.some.inj ho, by first | (rw [ht]; exact hP) | (dsimp only; rw [ht]; exact hP)⟩, hS.F ht⟩) hS.2.2 hd
  generalize MQ below (QRo G (ce_X6 G.2.1 a0 S0) out A) args s 0 0 A = Q at fin ⊢
  have blk2 : ∀ (fu2 : Nat), ∀ (v1 : Int32) (v2 : Int32), f_X6_numbered_b2 S0 fu2 v1 v2 = some out → ∀ (H : Heap) (locs : List Loc), va_P G.1 vwCl (ce_X6 G.2.1 a0 S0) H → va_D A (ce_X6 G.2.1 a0 S0) → va_S A s.heap H locs → ∀ (ls : Array Slot), lv_has ls 3 [(0, .ref a0.1), (1, .int v1), (2, .int v2)] → W p l e (headSpec wsX6_numbered rm_X6_numbered).room s m args below meth c H locs 0 0 Q (F0 m 2 ls []) := by
    intro fu2
    induction fu2 with
    | zero => intro v1 v2 hf; exact ob_none hf
    | succ fu2 ih2 =>
      intro v1 v2 hf H locs hP hD hS ls hl
      rw [f_X6_numbered_b2] at hf
      refine lv_iload_n hx hb dX6_numbered_2 rfl (lv_at hl 2 rfl) ?_
      refine lv_aload_n hx hb dX6_numbered_3 rfl (lv_at hl 0 rfl) ?_
      refine va_get (D := G.1) (ci := 6) (v := .ref a0.2.2.2.2.1) (C := RX6) (T := TX6) (N := 14) hx hb hts hinX6 hown hK hP 0 rfl rfl 3 (by decide) lk0 (fun _ h9 => h9) rfl dX6_numbered_4 ?_
      refine lv_iconst (v := 0) hx hb dX6_numbered_7 (by decide) ?_
      refine va_iald hx hb hK hP 4 0 rfl rfl (by decide : inB 0 130) dX6_numbered_8 ?_
      refine zl_top (y := S0.2.2.2.1 0) rfl ?_
      refine lv_icmp_ge (tgt := 35) hx hb dX6_numbered_9 (by decide) (fun c1 => ?_) (fun c1 => ?_)
      · replace hf := ob_pos c1 hf
        refine lv_bipush (v := (-9)) hx hb dX6_numbered_35 (by decide) ?_
        exact fin _ _ _ _ _ hf hP hD hS dX6_numbered_37
      · replace hf := ob_neg c1 hf
        refine lv_aload_n hx hb dX6_numbered_12 rfl (lv_at hl 0 rfl) ?_
        refine va_get (D := G.1) (ci := 6) (v := .ref a0.2.2.2.2.1) (C := RX6) (T := TX6) (N := 14) hx hb hts hinX6 hown hK hP 0 rfl rfl 3 (by decide) lk0 (fun _ h9 => h9) rfl dX6_numbered_13 ?_
        refine lv_iconst (v := 5) hx hb dX6_numbered_16 (by decide) ?_
        refine lv_bipush (v := 11) hx hb dX6_numbered_17 (by decide) ?_
        refine lv_iload_n hx hb dX6_numbered_19 rfl (lv_at hl 2 rfl) ?_
        refine lv_imul hx hb dX6_numbered_20 ?_
        refine lv_iadd hx hb dX6_numbered_21 ?_
        obtain ⟨hg2, hf⟩ := ob_guard hf
        refine va_iald hx hb hK hP 4 0 rfl rfl hg2 dX6_numbered_22 ?_
        refine lv_iload_n hx hb dX6_numbered_23 rfl (lv_at hl 1 rfl) ?_
        refine lv_icmp_ne (tgt := 29) hx hb dX6_numbered_24 (by decide) (fun c3 => ?_) (fun c3 => ?_)
        · replace hf := ob_neg c3 hf
          refine lv_iinc (v := v2 + 1) (lv' := [(2, .int (v2 + 1)), (0, .ref a0.1), (1, .int v1)]) hx hb dX6_numbered_29 hl (k := 2) rfl rfl (by decide) rfl (fun ls hl => ?_)
          refine lv_goto (tgt := 2) hx hb dX6_numbered_32 (by decide) ?_
          exact ih2 _ _ hf _ _ hP hD hS _ (lv_sub hl [1, 2, 0] rfl)
        · replace hf := ob_pos c3 hf
          refine lv_iload_n hx hb dX6_numbered_27 rfl (lv_at hl 2 rfl) ?_
          exact fin _ _ _ _ _ hf hP hD hS dX6_numbered_28
  have go : ∀ (H : Heap) (locs : List Loc), va_P G.1 vwCl (ce_X6 G.2.1 a0 S0) H → va_D A (ce_X6 G.2.1 a0 S0) → va_S A s.heap H locs → ∀ (ls : Array Slot), lv_has ls 3 [(0, .ref a0.1), (1, .int p1)] → W p l e (headSpec wsX6_numbered rm_X6_numbered).room s m args below meth c H locs 0 0 Q (F0 m 0 ls []) := by
    intro H locs hP hD hS ls hl
    refine lv_iconst (v := 0) hx hb dX6_numbered_0 (by decide) ?_
    refine lv_istore_n (lv' := [(2, .int 0), (0, .ref a0.1), (1, .int p1)]) hx hb dX6_numbered_1 rfl hl (by decide) rfl (fun ls hl => ?_)
    exact blk2 4096 _ _ hf _ _ hP hD hS _ (lv_sub hl [1, 2, 0] rfl)
  exact go _ _ hP hD hS _ hl
abbrev rm_X6_comes : Room := { frames := 2, cells := 0, slots := 0, locals := 46 }
set_option maxHeartbeats 4000000 in
set_option maxRecDepth 100000 in
theorem c_X6_comes (l : Launch) (G : zG) (a0 : AT_X6) (sz : Nat) (S0 : ST_X6) (p1 : Int32) (out : Int32 × ST_X6) (hf : f_X6_comes S0 p1 = some out) : Met l yX6_comes wsX6_comes rm_X6_comes (PcM G (ce_X6 G.2.1 a0 S0) [.ref a0.1, .int p1] sz) (QWr G (fun u => ce_X6 G.2.1 a0 u) out (va_A (ce_X6 G.2.1 a0 S0) sz)) 0 0 (va_A (ce_X6 G.2.1 a0 S0) sz) := by
  rw [f_X6_comes] at hf
  refine Met.ofW (cc := cX6_comes) (maxL := 4) (ret := (some .boolean)) (by decide) rfl ?_
  intro p e s m args below meth c s₁ B hml hv
  obtain ⟨hargs, hsz, hP, hK, hD0, hE⟩ := hv
  have hx := B.exec
  have hb := B.bytes
  have hr := B.returns
  have hts := atoms_spec (ws := wsX6_comes) B.pre
  have hown : s.vm.findClass RX6 = some m.cls := findClass_of_methodNamed B.named
  have hlocks := B.notSynchronized
  subst hsz
  have hD := hD0.self (sz := s.heap.size)
  generalize hAe : va_A (ce_X6 G.2.1 a0 S0) s.heap.size = A at hD hE ⊢
  have hA : ∀ q : Nat, s.heap.size ≤ q → A q := fun q h => by rw [← hAe]; exact Or.inr h
  have hS : va_S A s.heap s.heap [] := va_S.rf
  have hl := lv_entry ([.ref a0.1, .int p1]) (n := 4) (Nat.le_of_ble_eq_true rfl)
  have hent : entryFrame m args 4 = F0 m 0 ((lg_sl ([.ref a0.1, .int p1]) ++ List.replicate (4 - (lg_sl ([.ref a0.1, .int p1])).length) Slot.unset).toArray) [] := by rw [hargs, lg_entry_eq]
  rw [hent]
  clear hent
  generalize (lg_sl ([.ref a0.1, .int p1]) ++ List.replicate (4 - (lg_sl ([.ref a0.1, .int p1])).length) Slot.unset).toArray = ls at hl ⊢
  have hl : lv_has ls 4 [(0, .ref a0.1), (1, .int p1)] := hl
  have lk0 := hts (Cond.fieldLink RX6 19 "EnginesOnListModel" "read" "[I") (List.mem_of_getElem? (i := 2) rfl)
  have lk1 := hts (Cond.fieldLink RX6 25 "EnginesOnListModel" "told" "[I") (List.mem_of_getElem? (i := 1) rfl)
  have hinX6 : ∀ w ∈ wsX60, w ∈ wsX6_comes := by decide +kernel
  have fin : ∀ (pc : Nat) (v : Int32) (u : ST_X6) (H : Heap) (locs : List Loc) (ls : Array Slot), some (v, u) = some out → narrow .boolean (.int v) = .int v → va_P G.1 vwCl (ce_X6 G.2.1 a0 u) H → va_D A (ce_X6 G.2.1 a0 u) → va_S A s.heap H locs → decode cX6_comes pc = .ok (.ireturn, 1) → W p l e (headSpec wsX6_comes rm_X6_comes).room s m args below meth c H locs 0 0 (MQ below (QWr G (fun u => ce_X6 G.2.1 a0 u) out A) args s 0 0 A) (F0 m pc ls [.int v]) := fun pc v u H locs ls ho hn hP hD hS hd => W.zret (v := v) hx hb hr hn (fun t ht hW => ⟨⟨v, u, rfl, ob_pair ho, by first | (rw [ht]; exact hP) | (dsimp only; rw [ht]; exact hP), hD⟩, hS.F ht⟩) hS.2.2 hd
  generalize MQ below (QWr G (fun u => ce_X6 G.2.1 a0 u) out A) args s 0 0 A = Q at fin ⊢
  have blk41 : ∀ (S0 : ST_X6), f_X6_comes_b41 S0 = some out → ∀ (H : Heap) (locs : List Loc), va_P G.1 vwCl (ce_X6 G.2.1 a0 S0) H → va_D A (ce_X6 G.2.1 a0 S0) → va_S A s.heap H locs → ∀ (ls : Array Slot), lv_has ls 4 [] → W p l e (headSpec wsX6_comes rm_X6_comes).room s m args below meth c H locs 0 0 Q (F0 m 41 ls []) := by
    intro S0 hf H locs hP hD hS ls hl
    rw [f_X6_comes_b41] at hf
    refine lv_iconst (v := 0) hx hb dX6_comes_41 (by decide) ?_
    exact fin _ _ _ _ _ _ hf rfl hP hD hS dX6_comes_42
  have blk144 : ∀ (fu144 : Nat), ∀ (S0 : ST_X6) (v2 : Int32) (v3 : Int32), f_X6_comes_b144 fu144 S0 v2 v3 = some out → ∀ (H : Heap) (locs : List Loc), va_P G.1 vwCl (ce_X6 G.2.1 a0 S0) H → va_D A (ce_X6 G.2.1 a0 S0) → va_S A s.heap H locs → ∀ (ls : Array Slot), lv_has ls 4 [(0, .ref a0.1), (2, .int v2), (3, .int v3)] → W p l e (headSpec wsX6_comes rm_X6_comes).room s m args below meth c H locs 0 0 Q (F0 m 144 ls []) := by
    intro fu144
    induction fu144 with
    | zero => intro S0 v2 v3 hf; exact ob_none hf
    | succ fu144 ih144 =>
      intro S0 v2 v3 hf H locs hP hD hS ls hl
      rw [f_X6_comes_b144] at hf
      refine lv_iload_n hx hb dX6_comes_144 rfl (lv_at hl 2 rfl) ?_
      refine lv_bipush (v := 7) hx hb dX6_comes_145 (by decide) ?_
      refine lv_icmp_ge (tgt := 174) hx hb dX6_comes_147 (by decide) (fun c1 => ?_) (fun c1 => ?_)
      · replace hf := ob_pos c1 hf
        refine lv_aload_n hx hb dX6_comes_174 rfl (lv_at hl 0 rfl) ?_
        refine va_get (D := G.1) (ci := 6) (v := .ref a0.2.2.2.2.1) (C := RX6) (T := TX6) (N := 14) hx hb hts hinX6 hown hK hP 0 rfl rfl 3 (by decide) lk0 (fun _ h9 => h9) rfl dX6_comes_175 ?_
        refine lv_iconst (v := 0) hx hb dX6_comes_178 (by decide) ?_
        refine lv_dup2_11 hx hb dX6_comes_179 rfl rfl ?_
        refine va_iald hx hb hK hP 4 0 rfl rfl (by decide : inB 0 130) dX6_comes_180 ?_
        refine zl_top (y := S0.2.2.2.1 0) rfl ?_
        refine lv_iconst (v := 1) hx hb dX6_comes_181 (by decide) ?_
        refine lv_iadd hx hb dX6_comes_182 ?_
        refine va_iast hx hb hK hP hD hS 4 0 rfl rfl (by decide : inB 0 130) dX6_comes_183 (fun H locs hP hD hS => ?_)
        have hP : va_P G.1 vwCl (ce_X6 G.2.1 a0 (S0.1, S0.2.1, S0.2.2.1, (upd S0.2.2.2.1 0 ((S0.2.2.2.1 0) + 1)), S0.2.2.2.2.1, S0.2.2.2.2.2.1, S0.2.2.2.2.2.2.1, S0.2.2.2.2.2.2.2.1, S0.2.2.2.2.2.2.2.2.1, S0.2.2.2.2.2.2.2.2.2.1, S0.2.2.2.2.2.2.2.2.2.2.1, S0.2.2.2.2.2.2.2.2.2.2.2.1, S0.2.2.2.2.2.2.2.2.2.2.2.2.1, S0.2.2.2.2.2.2.2.2.2.2.2.2.2)) H := hP
        have hD : va_D A (ce_X6 G.2.1 a0 (S0.1, S0.2.1, S0.2.2.1, (upd S0.2.2.2.1 0 ((S0.2.2.2.1 0) + 1)), S0.2.2.2.2.1, S0.2.2.2.2.2.1, S0.2.2.2.2.2.2.1, S0.2.2.2.2.2.2.2.1, S0.2.2.2.2.2.2.2.2.1, S0.2.2.2.2.2.2.2.2.2.1, S0.2.2.2.2.2.2.2.2.2.2.1, S0.2.2.2.2.2.2.2.2.2.2.2.1, S0.2.2.2.2.2.2.2.2.2.2.2.2.1, S0.2.2.2.2.2.2.2.2.2.2.2.2.2)) := hD
        refine lv_iconst (v := 1) hx hb dX6_comes_184 (by decide) ?_
        exact fin _ _ _ _ _ _ hf rfl hP hD hS dX6_comes_185
      · replace hf := ob_neg c1 hf
        refine lv_aload_n hx hb dX6_comes_150 rfl (lv_at hl 0 rfl) ?_
        refine va_get (D := G.1) (ci := 6) (v := .ref a0.2.2.2.2.1) (C := RX6) (T := TX6) (N := 14) hx hb hts hinX6 hown hK hP 0 rfl rfl 3 (by decide) lk0 (fun _ h9 => h9) rfl dX6_comes_151 ?_
        refine lv_iload_n hx hb dX6_comes_154 rfl (lv_at hl 1 rfl) ?_
        refine lv_iconst (v := 4) hx hb dX6_comes_155 (by decide) ?_
        refine lv_iadd hx hb dX6_comes_156 ?_
        refine lv_iload_n hx hb dX6_comes_157 rfl (lv_at hl 2 rfl) ?_
        refine lv_iadd hx hb dX6_comes_158 ?_
        refine lv_aload_n hx hb dX6_comes_159 rfl (lv_at hl 0 rfl) ?_
        refine va_get (D := G.1) (ci := 6) (v := .ref a0.2.2.2.2.2.2.1) (C := RX6) (T := TX6) (N := 14) hx hb hts hinX6 hown hK hP 0 rfl rfl 6 (by decide) lk1 (fun _ h9 => h9) rfl dX6_comes_160 ?_
        refine lv_iconst (v := 3) hx hb dX6_comes_163 (by decide) ?_
        refine lv_iload_n hx hb dX6_comes_164 rfl (lv_at hl 2 rfl) ?_
        refine lv_iadd hx hb dX6_comes_165 ?_
        obtain ⟨hg2, hf⟩ := ob_guard hf
        refine va_iald hx hb hK hP 6 0 rfl rfl hg2 dX6_comes_166 ?_
        obtain ⟨hg3, hf⟩ := ob_guard hf
        refine va_iast hx hb hK hP hD hS 4 0 rfl rfl hg3 dX6_comes_167 (fun H locs hP hD hS => ?_)
        have hP : va_P G.1 vwCl (ce_X6 G.2.1 a0 (S0.1, S0.2.1, S0.2.2.1, (upd S0.2.2.2.1 (((v2 + 4) + v3).toNatClampNeg) (S0.2.2.2.2.2.2.1 (3 + v3).toNatClampNeg)), S0.2.2.2.2.1, S0.2.2.2.2.2.1, S0.2.2.2.2.2.2.1, S0.2.2.2.2.2.2.2.1, S0.2.2.2.2.2.2.2.2.1, S0.2.2.2.2.2.2.2.2.2.1, S0.2.2.2.2.2.2.2.2.2.2.1, S0.2.2.2.2.2.2.2.2.2.2.2.1, S0.2.2.2.2.2.2.2.2.2.2.2.2.1, S0.2.2.2.2.2.2.2.2.2.2.2.2.2)) H := hP
        have hD : va_D A (ce_X6 G.2.1 a0 (S0.1, S0.2.1, S0.2.2.1, (upd S0.2.2.2.1 (((v2 + 4) + v3).toNatClampNeg) (S0.2.2.2.2.2.2.1 (3 + v3).toNatClampNeg)), S0.2.2.2.2.1, S0.2.2.2.2.2.1, S0.2.2.2.2.2.2.1, S0.2.2.2.2.2.2.2.1, S0.2.2.2.2.2.2.2.2.1, S0.2.2.2.2.2.2.2.2.2.1, S0.2.2.2.2.2.2.2.2.2.2.1, S0.2.2.2.2.2.2.2.2.2.2.2.1, S0.2.2.2.2.2.2.2.2.2.2.2.2.1, S0.2.2.2.2.2.2.2.2.2.2.2.2.2)) := hD
        refine lv_iinc (v := v3 + 1) (lv' := [(3, .int (v3 + 1)), (0, .ref a0.1), (2, .int v2)]) hx hb dX6_comes_168 hl (k := 2) rfl rfl (by decide) rfl (fun ls hl => ?_)
        refine lv_goto (tgt := 144) hx hb dX6_comes_171 (by decide) ?_
        exact ih144 _ _ _ hf _ _ hP hD hS _ (lv_sub hl [1, 2, 0] rfl)
  have blk45 : ∀ (fu45 : Nat), ∀ (S0 : ST_X6) (v2 : Int32), f_X6_comes_b45 fu45 S0 v2 = some out → ∀ (H : Heap) (locs : List Loc), va_P G.1 vwCl (ce_X6 G.2.1 a0 S0) H → va_D A (ce_X6 G.2.1 a0 S0) → va_S A s.heap H locs → ∀ (ls : Array Slot), lv_has ls 4 [(0, .ref a0.1), (2, .int v2)] → W p l e (headSpec wsX6_comes rm_X6_comes).room s m args below meth c H locs 0 0 Q (F0 m 45 ls []) := by
    intro fu45
    induction fu45 with
    | zero => intro S0 v2 hf; exact ob_none hf
    | succ fu45 ih45 =>
      intro S0 v2 hf H locs hP hD hS ls hl
      rw [f_X6_comes_b45] at hf
      have blk74 : ∀ (S0 : ST_X6) (v2 : Int32), f_X6_comes_b74 (f_X6_comes_b45 fu45) S0 v2 = some out → ∀ (H : Heap) (locs : List Loc), va_P G.1 vwCl (ce_X6 G.2.1 a0 S0) H → va_D A (ce_X6 G.2.1 a0 S0) → va_S A s.heap H locs → ∀ (ls : Array Slot), lv_has ls 4 [(0, .ref a0.1), (2, .int v2)] → W p l e (headSpec wsX6_comes rm_X6_comes).room s m args below meth c H locs 0 0 Q (F0 m 74 ls []) := by
        intro S0 v2 hf H locs hP hD hS ls hl
        rw [f_X6_comes_b74] at hf
        refine lv_iinc (v := v2 + 1) (lv' := [(2, .int (v2 + 1)), (0, .ref a0.1)]) hx hb dX6_comes_74 hl (k := 1) rfl rfl (by decide) rfl (fun ls hl => ?_)
        refine lv_goto (tgt := 45) hx hb dX6_comes_77 (by decide) ?_
        exact ih45 _ _ hf _ _ hP hD hS _ (lv_sub hl [1, 0] rfl)
      refine lv_iload_n hx hb dX6_comes_45 rfl (lv_at hl 1 rfl) ?_
      refine lv_bipush (v := 10) hx hb dX6_comes_46 (by decide) ?_
      refine lv_icmp_ge (tgt := 80) hx hb dX6_comes_48 (by decide) (fun c4 => ?_) (fun c4 => ?_)
      · replace hf := ob_pos c4 hf
        refine lv_iconst (v := 5) hx hb dX6_comes_80 (by decide) ?_
        refine lv_bipush (v := 11) hx hb dX6_comes_81 (by decide) ?_
        refine lv_aload_n hx hb dX6_comes_83 rfl (lv_at hl 0 rfl) ?_
        refine va_get (D := G.1) (ci := 6) (v := .ref a0.2.2.2.2.1) (C := RX6) (T := TX6) (N := 14) hx hb hts hinX6 hown hK hP 0 rfl rfl 3 (by decide) lk0 (fun _ h9 => h9) rfl dX6_comes_84 ?_
        refine lv_iconst (v := 0) hx hb dX6_comes_87 (by decide) ?_
        refine va_iald hx hb hK hP 4 0 rfl rfl (by decide : inB 0 130) dX6_comes_88 ?_
        refine zl_top (y := S0.2.2.2.1 0) rfl ?_
        refine lv_imul hx hb dX6_comes_89 ?_
        refine lv_iadd hx hb dX6_comes_90 ?_
        refine lv_istore_n (lv' := [(2, .int (5 + (11 * (S0.2.2.2.1 0)))), (0, .ref a0.1)]) hx hb dX6_comes_91 rfl hl (by decide) rfl (fun ls hl => ?_)
        refine lv_aload_n hx hb dX6_comes_92 rfl (lv_at hl 1 rfl) ?_
        refine va_get (D := G.1) (ci := 6) (v := .ref a0.2.2.2.2.1) (C := RX6) (T := TX6) (N := 14) hx hb hts hinX6 hown hK hP 0 rfl rfl 3 (by decide) lk0 (fun _ h9 => h9) rfl dX6_comes_93 ?_
        refine lv_iload_n hx hb dX6_comes_96 rfl (lv_at hl 0 rfl) ?_
        refine lv_aload_n hx hb dX6_comes_97 rfl (lv_at hl 1 rfl) ?_
        refine va_get (D := G.1) (ci := 6) (v := .ref a0.2.2.2.2.2.2.1) (C := RX6) (T := TX6) (N := 14) hx hb hts hinX6 hown hK hP 0 rfl rfl 6 (by decide) lk1 (fun _ h9 => h9) rfl dX6_comes_98 ?_
        refine lv_iconst (v := 0) hx hb dX6_comes_101 (by decide) ?_
        refine va_iald hx hb hK hP 6 0 rfl rfl (by decide : inB 0 10) dX6_comes_102 ?_
        refine zl_top (y := S0.2.2.2.2.2.2.1 0) rfl ?_
        obtain ⟨hg5, hf⟩ := ob_guard hf
        refine va_iast hx hb hK hP hD hS 4 0 rfl rfl hg5 dX6_comes_103 (fun H locs hP hD hS => ?_)
        have hP : va_P G.1 vwCl (ce_X6 G.2.1 a0 (S0.1, S0.2.1, S0.2.2.1, (upd S0.2.2.2.1 ((5 + (11 * (S0.2.2.2.1 0))).toNatClampNeg) (S0.2.2.2.2.2.2.1 0)), S0.2.2.2.2.1, S0.2.2.2.2.2.1, S0.2.2.2.2.2.2.1, S0.2.2.2.2.2.2.2.1, S0.2.2.2.2.2.2.2.2.1, S0.2.2.2.2.2.2.2.2.2.1, S0.2.2.2.2.2.2.2.2.2.2.1, S0.2.2.2.2.2.2.2.2.2.2.2.1, S0.2.2.2.2.2.2.2.2.2.2.2.2.1, S0.2.2.2.2.2.2.2.2.2.2.2.2.2)) H := hP
        have hD : va_D A (ce_X6 G.2.1 a0 (S0.1, S0.2.1, S0.2.2.1, (upd S0.2.2.2.1 ((5 + (11 * (S0.2.2.2.1 0))).toNatClampNeg) (S0.2.2.2.2.2.2.1 0)), S0.2.2.2.2.1, S0.2.2.2.2.2.1, S0.2.2.2.2.2.2.1, S0.2.2.2.2.2.2.2.1, S0.2.2.2.2.2.2.2.2.1, S0.2.2.2.2.2.2.2.2.2.1, S0.2.2.2.2.2.2.2.2.2.2.1, S0.2.2.2.2.2.2.2.2.2.2.2.1, S0.2.2.2.2.2.2.2.2.2.2.2.2.1, S0.2.2.2.2.2.2.2.2.2.2.2.2.2)) := hD
        refine lv_aload_n hx hb dX6_comes_104 rfl (lv_at hl 1 rfl) ?_
        refine va_get (D := G.1) (ci := 6) (v := .ref a0.2.2.2.2.1) (C := RX6) (T := TX6) (N := 14) hx hb hts hinX6 hown hK hP 0 rfl rfl 3 (by decide) lk0 (fun _ h9 => h9) rfl dX6_comes_105 ?_
        refine lv_iload_n hx hb dX6_comes_108 rfl (lv_at hl 0 rfl) ?_
        refine lv_iconst (v := 1) hx hb dX6_comes_109 (by decide) ?_
        refine lv_iadd hx hb dX6_comes_110 ?_
        refine lv_aload_n hx hb dX6_comes_111 rfl (lv_at hl 1 rfl) ?_
        refine va_get (D := G.1) (ci := 6) (v := .ref a0.2.2.2.2.2.2.1) (C := RX6) (T := TX6) (N := 14) hx hb hts hinX6 hown hK hP 0 rfl rfl 6 (by decide) lk1 (fun _ h9 => h9) rfl dX6_comes_112 ?_
        refine lv_iconst (v := 1) hx hb dX6_comes_115 (by decide) ?_
        refine va_iald hx hb hK hP 6 0 rfl rfl (by decide : inB 1 10) dX6_comes_116 ?_
        refine zl_top (y := S0.2.2.2.2.2.2.1 1) rfl ?_
        obtain ⟨hg6, hf⟩ := ob_guard hf
        refine va_iast hx hb hK hP hD hS 4 0 rfl rfl hg6 dX6_comes_117 (fun H locs hP hD hS => ?_)
        have hP : va_P G.1 vwCl (ce_X6 G.2.1 a0 (S0.1, S0.2.1, S0.2.2.1, (upd (upd S0.2.2.2.1 ((5 + (11 * (S0.2.2.2.1 0))).toNatClampNeg) (S0.2.2.2.2.2.2.1 0)) (((5 + (11 * (S0.2.2.2.1 0))) + 1).toNatClampNeg) (S0.2.2.2.2.2.2.1 1)), S0.2.2.2.2.1, S0.2.2.2.2.2.1, S0.2.2.2.2.2.2.1, S0.2.2.2.2.2.2.2.1, S0.2.2.2.2.2.2.2.2.1, S0.2.2.2.2.2.2.2.2.2.1, S0.2.2.2.2.2.2.2.2.2.2.1, S0.2.2.2.2.2.2.2.2.2.2.2.1, S0.2.2.2.2.2.2.2.2.2.2.2.2.1, S0.2.2.2.2.2.2.2.2.2.2.2.2.2)) H := hP
        have hD : va_D A (ce_X6 G.2.1 a0 (S0.1, S0.2.1, S0.2.2.1, (upd (upd S0.2.2.2.1 ((5 + (11 * (S0.2.2.2.1 0))).toNatClampNeg) (S0.2.2.2.2.2.2.1 0)) (((5 + (11 * (S0.2.2.2.1 0))) + 1).toNatClampNeg) (S0.2.2.2.2.2.2.1 1)), S0.2.2.2.2.1, S0.2.2.2.2.2.1, S0.2.2.2.2.2.2.1, S0.2.2.2.2.2.2.2.1, S0.2.2.2.2.2.2.2.2.1, S0.2.2.2.2.2.2.2.2.2.1, S0.2.2.2.2.2.2.2.2.2.2.1, S0.2.2.2.2.2.2.2.2.2.2.2.1, S0.2.2.2.2.2.2.2.2.2.2.2.2.1, S0.2.2.2.2.2.2.2.2.2.2.2.2.2)) := hD
        refine lv_aload_n hx hb dX6_comes_118 rfl (lv_at hl 1 rfl) ?_
        refine va_get (D := G.1) (ci := 6) (v := .ref a0.2.2.2.2.1) (C := RX6) (T := TX6) (N := 14) hx hb hts hinX6 hown hK hP 0 rfl rfl 3 (by decide) lk0 (fun _ h9 => h9) rfl dX6_comes_119 ?_
        refine lv_iload_n hx hb dX6_comes_122 rfl (lv_at hl 0 rfl) ?_
        refine lv_iconst (v := 2) hx hb dX6_comes_123 (by decide) ?_
        refine lv_iadd hx hb dX6_comes_124 ?_
        refine lv_aload_n hx hb dX6_comes_125 rfl (lv_at hl 1 rfl) ?_
        refine va_get (D := G.1) (ci := 6) (v := .ref a0.2.2.2.2.2.2.1) (C := RX6) (T := TX6) (N := 14) hx hb hts hinX6 hown hK hP 0 rfl rfl 6 (by decide) lk1 (fun _ h9 => h9) rfl dX6_comes_126 ?_
        refine lv_iconst (v := 2) hx hb dX6_comes_129 (by decide) ?_
        refine va_iald hx hb hK hP 6 0 rfl rfl (by decide : inB 2 10) dX6_comes_130 ?_
        refine zl_top (y := S0.2.2.2.2.2.2.1 2) rfl ?_
        obtain ⟨hg7, hf⟩ := ob_guard hf
        refine va_iast hx hb hK hP hD hS 4 0 rfl rfl hg7 dX6_comes_131 (fun H locs hP hD hS => ?_)
        have hP : va_P G.1 vwCl (ce_X6 G.2.1 a0 (S0.1, S0.2.1, S0.2.2.1, (upd (upd (upd S0.2.2.2.1 ((5 + (11 * (S0.2.2.2.1 0))).toNatClampNeg) (S0.2.2.2.2.2.2.1 0)) (((5 + (11 * (S0.2.2.2.1 0))) + 1).toNatClampNeg) (S0.2.2.2.2.2.2.1 1)) (((5 + (11 * (S0.2.2.2.1 0))) + 2).toNatClampNeg) (S0.2.2.2.2.2.2.1 2)), S0.2.2.2.2.1, S0.2.2.2.2.2.1, S0.2.2.2.2.2.2.1, S0.2.2.2.2.2.2.2.1, S0.2.2.2.2.2.2.2.2.1, S0.2.2.2.2.2.2.2.2.2.1, S0.2.2.2.2.2.2.2.2.2.2.1, S0.2.2.2.2.2.2.2.2.2.2.2.1, S0.2.2.2.2.2.2.2.2.2.2.2.2.1, S0.2.2.2.2.2.2.2.2.2.2.2.2.2)) H := hP
        have hD : va_D A (ce_X6 G.2.1 a0 (S0.1, S0.2.1, S0.2.2.1, (upd (upd (upd S0.2.2.2.1 ((5 + (11 * (S0.2.2.2.1 0))).toNatClampNeg) (S0.2.2.2.2.2.2.1 0)) (((5 + (11 * (S0.2.2.2.1 0))) + 1).toNatClampNeg) (S0.2.2.2.2.2.2.1 1)) (((5 + (11 * (S0.2.2.2.1 0))) + 2).toNatClampNeg) (S0.2.2.2.2.2.2.1 2)), S0.2.2.2.2.1, S0.2.2.2.2.2.1, S0.2.2.2.2.2.2.1, S0.2.2.2.2.2.2.2.1, S0.2.2.2.2.2.2.2.2.1, S0.2.2.2.2.2.2.2.2.2.1, S0.2.2.2.2.2.2.2.2.2.2.1, S0.2.2.2.2.2.2.2.2.2.2.2.1, S0.2.2.2.2.2.2.2.2.2.2.2.2.1, S0.2.2.2.2.2.2.2.2.2.2.2.2.2)) := hD
        refine lv_aload_n hx hb dX6_comes_132 rfl (lv_at hl 1 rfl) ?_
        refine va_get (D := G.1) (ci := 6) (v := .ref a0.2.2.2.2.1) (C := RX6) (T := TX6) (N := 14) hx hb hts hinX6 hown hK hP 0 rfl rfl 3 (by decide) lk0 (fun _ h9 => h9) rfl dX6_comes_133 ?_
        refine lv_iload_n hx hb dX6_comes_136 rfl (lv_at hl 0 rfl) ?_
        refine lv_iconst (v := 3) hx hb dX6_comes_137 (by decide) ?_
        refine lv_iadd hx hb dX6_comes_138 ?_
        refine lv_bipush (v := (-9)) hx hb dX6_comes_139 (by decide) ?_
        obtain ⟨hg8, hf⟩ := ob_guard hf
        refine va_iast hx hb hK hP hD hS 4 0 rfl rfl hg8 dX6_comes_141 (fun H locs hP hD hS => ?_)
        have hP : va_P G.1 vwCl (ce_X6 G.2.1 a0 (S0.1, S0.2.1, S0.2.2.1, (upd (upd (upd (upd S0.2.2.2.1 ((5 + (11 * (S0.2.2.2.1 0))).toNatClampNeg) (S0.2.2.2.2.2.2.1 0)) (((5 + (11 * (S0.2.2.2.1 0))) + 1).toNatClampNeg) (S0.2.2.2.2.2.2.1 1)) (((5 + (11 * (S0.2.2.2.1 0))) + 2).toNatClampNeg) (S0.2.2.2.2.2.2.1 2)) (((5 + (11 * (S0.2.2.2.1 0))) + 3).toNatClampNeg) (-9)), S0.2.2.2.2.1, S0.2.2.2.2.2.1, S0.2.2.2.2.2.2.1, S0.2.2.2.2.2.2.2.1, S0.2.2.2.2.2.2.2.2.1, S0.2.2.2.2.2.2.2.2.2.1, S0.2.2.2.2.2.2.2.2.2.2.1, S0.2.2.2.2.2.2.2.2.2.2.2.1, S0.2.2.2.2.2.2.2.2.2.2.2.2.1, S0.2.2.2.2.2.2.2.2.2.2.2.2.2)) H := hP
        have hD : va_D A (ce_X6 G.2.1 a0 (S0.1, S0.2.1, S0.2.2.1, (upd (upd (upd (upd S0.2.2.2.1 ((5 + (11 * (S0.2.2.2.1 0))).toNatClampNeg) (S0.2.2.2.2.2.2.1 0)) (((5 + (11 * (S0.2.2.2.1 0))) + 1).toNatClampNeg) (S0.2.2.2.2.2.2.1 1)) (((5 + (11 * (S0.2.2.2.1 0))) + 2).toNatClampNeg) (S0.2.2.2.2.2.2.1 2)) (((5 + (11 * (S0.2.2.2.1 0))) + 3).toNatClampNeg) (-9)), S0.2.2.2.2.1, S0.2.2.2.2.2.1, S0.2.2.2.2.2.2.1, S0.2.2.2.2.2.2.2.1, S0.2.2.2.2.2.2.2.2.1, S0.2.2.2.2.2.2.2.2.2.1, S0.2.2.2.2.2.2.2.2.2.2.1, S0.2.2.2.2.2.2.2.2.2.2.2.1, S0.2.2.2.2.2.2.2.2.2.2.2.2.1, S0.2.2.2.2.2.2.2.2.2.2.2.2.2)) := hD
        refine lv_iconst (v := 0) hx hb dX6_comes_142 (by decide) ?_
        refine lv_istore_n (lv' := [(3, .int 0), (2, .int (5 + (11 * (S0.2.2.2.1 0)))), (0, .ref a0.1)]) hx hb dX6_comes_143 rfl hl (by decide) rfl (fun ls hl => ?_)
        exact blk144 4096 _ _ _ hf _ _ hP hD hS _ (lv_sub hl [2, 1, 0] rfl)
      · replace hf := ob_neg c4 hf
        refine lv_aload_n hx hb dX6_comes_51 rfl (lv_at hl 0 rfl) ?_
        refine va_get (D := G.1) (ci := 6) (v := .ref a0.2.2.2.2.2.2.1) (C := RX6) (T := TX6) (N := 14) hx hb hts hinX6 hown hK hP 0 rfl rfl 6 (by decide) lk1 (fun _ h9 => h9) rfl dX6_comes_52 ?_
        refine lv_iload_n hx hb dX6_comes_55 rfl (lv_at hl 1 rfl) ?_
        obtain ⟨hg9, hf⟩ := ob_guard hf
        refine va_iald hx hb hK hP 6 0 rfl rfl hg9 dX6_comes_56 ?_
        refine lv_iconst (v := 5) hx hb dX6_comes_57 (by decide) ?_
        refine lv_icmp_lt (tgt := 74) hx hb dX6_comes_58 (by decide) (fun c10 => ?_) (fun c10 => ?_)
        · replace hf := ob_pos c10 hf
          exact blk74 _ _ hf _ _ hP hD hS _ (lv_sub hl [0, 1] rfl)
        · replace hf := ob_neg c10 hf
          refine lv_aload_n hx hb dX6_comes_61 rfl (lv_at hl 0 rfl) ?_
          refine va_get (D := G.1) (ci := 6) (v := .ref a0.2.2.2.2.2.2.1) (C := RX6) (T := TX6) (N := 14) hx hb hts hinX6 hown hK hP 0 rfl rfl 6 (by decide) lk1 (fun _ h9 => h9) rfl dX6_comes_62 ?_
          refine lv_iload_n hx hb dX6_comes_65 rfl (lv_at hl 1 rfl) ?_
          obtain ⟨hg11, hf⟩ := ob_guard hf
          refine va_iald hx hb hK hP 6 0 rfl rfl hg11 dX6_comes_66 ?_
          refine lv_bipush (v := 9) hx hb dX6_comes_67 (by decide) ?_
          refine lv_icmp_eq (tgt := 74) hx hb dX6_comes_69 (by decide) (fun c12 => ?_) (fun c12 => ?_)
          · replace hf := ob_pos c12 hf
            exact blk74 _ _ hf _ _ hP hD hS _ (lv_sub hl [0, 1] rfl)
          · replace hf := ob_neg c12 hf
            refine lv_iconst (v := 0) hx hb dX6_comes_72 (by decide) ?_
            exact fin _ _ _ _ _ _ hf rfl hP hD hS dX6_comes_73
  have blk299 : ∀ (S0 : ST_X6), f_X6_comes_b299 S0 = some out → ∀ (H : Heap) (locs : List Loc), va_P G.1 vwCl (ce_X6 G.2.1 a0 S0) H → va_D A (ce_X6 G.2.1 a0 S0) → va_S A s.heap H locs → ∀ (ls : Array Slot), lv_has ls 4 [] → W p l e (headSpec wsX6_comes rm_X6_comes).room s m args below meth c H locs 0 0 Q (F0 m 299 ls []) := by
    intro S0 hf H locs hP hD hS ls hl
    rw [f_X6_comes_b299] at hf
    refine lv_iconst (v := 0) hx hb dX6_comes_299 (by decide) ?_
    exact fin _ _ _ _ _ _ hf rfl hP hD hS dX6_comes_300
  have blk239 : ∀ (S0 : ST_X6) (v1 : Int32) (v2 : Int32), f_X6_comes_b239 S0 v1 v2 = some out → ∀ (H : Heap) (locs : List Loc), va_P G.1 vwCl (ce_X6 G.2.1 a0 S0) H → va_D A (ce_X6 G.2.1 a0 S0) → va_S A s.heap H locs → ∀ (ls : Array Slot), lv_has ls 4 [(0, .ref a0.1), (1, .int v1), (2, .int v2)] → W p l e (headSpec wsX6_comes rm_X6_comes).room s m args below meth c H locs 0 0 Q (F0 m 239 ls []) := by
    intro S0 v1 v2 hf H locs hP hD hS ls hl
    rw [f_X6_comes_b239] at hf
    refine lv_iload_n hx hb dX6_comes_239 rfl (lv_at hl 1 rfl) ?_
    refine lv_bipush (v := 106) hx hb dX6_comes_240 (by decide) ?_
    refine lv_icmp_eq (tgt := 247) hx hb dX6_comes_242 (by decide) (fun c13 => ?_) (fun c13 => ?_)
    · replace hf := ob_pos c13 hf
      refine lv_aload_n hx hb dX6_comes_247 rfl (lv_at hl 0 rfl) ?_
      refine lv_aload_n hx hb dX6_comes_248 rfl (lv_at hl 0 rfl) ?_
      refine va_get (D := G.1) (ci := 6) (v := .ref a0.2.2.2.2.2.2.1) (C := RX6) (T := TX6) (N := 14) hx hb hts hinX6 hown hK hP 0 rfl rfl 6 (by decide) lk1 (fun _ h9 => h9) rfl dX6_comes_249 ?_
      refine lv_iconst (v := 1) hx hb dX6_comes_252 (by decide) ?_
      refine va_iald hx hb hK hP 6 0 rfl rfl (by decide : inB 1 10) dX6_comes_253 ?_
      refine zl_top (y := S0.2.2.2.2.2.2.1 1) rfl ?_
      obtain ⟨r14, hr14, hf⟩ := ob_bind hf
      have hFc := va_free (wc := ce_X6 G.2.1 a0 S0) hD hS hA [0, 1, 2, 3, 4, 5, 6, 7, 8, 9] rfl
      refine zc_ro (va_runV (As := [.int (S0.2.2.2.2.2.2.1 1)]) (rest := []) ⟨hx, hb, hml, hown, hts⟩ (c_X6_numbered l G a0 H.size S0 (S0.2.2.2.2.2.2.1 1) _ hr14) (cwV 1 hts gX6_comes_X6_numbered rfl rfl rfl (by decide +kernel) ⟨Nat.le_of_ble_eq_true rfl, Nat.le_of_ble_eq_true rfl⟩) ⟨PcM.blind, va_recv hK hP (ci := 6) (q0 := 0) rfl rfl, PcM.ok hP hD hK hE hS hFc⟩ rfl rfl hl.1 rfl (lv_room (Nat.le_of_ble_eq_true rfl)) dX6_comes_254 ⟨Nat.le_refl _, Nat.le_refl _⟩) hP hD hS hA [0, 1, 2, 3, 4, 5, 6, 7, 8, 9] rfl (fun H locs hP hS => ?_)
      refine lv_istore_n (lv' := [(3, .int r14), (0, .ref a0.1), (1, .int v1), (2, .int v2)]) hx hb dX6_comes_257 rfl hl (by decide) rfl (fun ls hl => ?_)
      refine lv_iload_n hx hb dX6_comes_258 rfl (lv_at hl 0 rfl) ?_
      refine lv_if_lt (tgt := 299) hx hb dX6_comes_259 (by decide) (fun c15 => ?_) (fun c15 => ?_)
      · replace hf := ob_pos c15 hf
        exact blk299 _ hf _ _ hP hD hS _ (lv_sub hl [] rfl)
      · replace hf := ob_neg c15 hf
        refine lv_iload_n hx hb dX6_comes_262 rfl (lv_at hl 3 rfl) ?_
        refine lv_iload_n hx hb dX6_comes_263 rfl (lv_at hl 0 rfl) ?_
        refine lv_icmp_eq (tgt := 299) hx hb dX6_comes_264 (by decide) (fun c16 => ?_) (fun c16 => ?_)
        · replace hf := ob_pos c16 hf
          exact blk299 _ hf _ _ hP hD hS _ (lv_sub hl [] rfl)
        · replace hf := ob_neg c16 hf
          refine lv_aload_n hx hb dX6_comes_267 rfl (lv_at hl 1 rfl) ?_
          refine va_get (D := G.1) (ci := 6) (v := .ref a0.2.2.2.2.1) (C := RX6) (T := TX6) (N := 14) hx hb hts hinX6 hown hK hP 0 rfl rfl 3 (by decide) lk0 (fun _ h9 => h9) rfl dX6_comes_268 ?_
          refine lv_iconst (v := 5) hx hb dX6_comes_271 (by decide) ?_
          refine lv_bipush (v := 11) hx hb dX6_comes_272 (by decide) ?_
          refine lv_iload_n hx hb dX6_comes_274 rfl (lv_at hl 3 rfl) ?_
          refine lv_imul hx hb dX6_comes_275 ?_
          refine lv_iadd hx hb dX6_comes_276 ?_
          refine lv_iconst (v := 3) hx hb dX6_comes_277 (by decide) ?_
          refine lv_iadd hx hb dX6_comes_278 ?_
          obtain ⟨hg17, hf⟩ := ob_guard hf
          refine va_iald hx hb hK hP 4 0 rfl rfl hg17 dX6_comes_279 ?_
          refine lv_if_ge (tgt := 299) hx hb dX6_comes_280 (by decide) (fun c18 => ?_) (fun c18 => ?_)
          · replace hf := ob_pos c18 hf
            exact blk299 _ hf _ _ hP hD hS _ (lv_sub hl [] rfl)
          · replace hf := ob_neg c18 hf
            refine lv_aload_n hx hb dX6_comes_283 rfl (lv_at hl 1 rfl) ?_
            refine va_get (D := G.1) (ci := 6) (v := .ref a0.2.2.2.2.1) (C := RX6) (T := TX6) (N := 14) hx hb hts hinX6 hown hK hP 0 rfl rfl 3 (by decide) lk0 (fun _ h9 => h9) rfl dX6_comes_284 ?_
            refine lv_iconst (v := 5) hx hb dX6_comes_287 (by decide) ?_
            refine lv_bipush (v := 11) hx hb dX6_comes_288 (by decide) ?_
            refine lv_iload_n hx hb dX6_comes_290 rfl (lv_at hl 0 rfl) ?_
            refine lv_imul hx hb dX6_comes_291 ?_
            refine lv_iadd hx hb dX6_comes_292 ?_
            refine lv_iconst (v := 3) hx hb dX6_comes_293 (by decide) ?_
            refine lv_iadd hx hb dX6_comes_294 ?_
            obtain ⟨hg19, hf⟩ := ob_guard hf
            refine va_iald hx hb hK hP 4 0 rfl rfl hg19 dX6_comes_295 ?_
            refine lv_if_lt (tgt := 301) hx hb dX6_comes_296 (by decide) (fun c20 => ?_) (fun c20 => ?_)
            · replace hf := ob_pos c20 hf
              refine lv_aload_n hx hb dX6_comes_301 rfl (lv_at hl 1 rfl) ?_
              refine va_get (D := G.1) (ci := 6) (v := .ref a0.2.2.2.2.1) (C := RX6) (T := TX6) (N := 14) hx hb hts hinX6 hown hK hP 0 rfl rfl 3 (by decide) lk0 (fun _ h9 => h9) rfl dX6_comes_302 ?_
              refine lv_iconst (v := 5) hx hb dX6_comes_305 (by decide) ?_
              refine lv_bipush (v := 11) hx hb dX6_comes_306 (by decide) ?_
              refine lv_iload_n hx hb dX6_comes_308 rfl (lv_at hl 3 rfl) ?_
              refine lv_imul hx hb dX6_comes_309 ?_
              refine lv_iadd hx hb dX6_comes_310 ?_
              refine lv_iconst (v := 3) hx hb dX6_comes_311 (by decide) ?_
              refine lv_iadd hx hb dX6_comes_312 ?_
              refine lv_iload_n hx hb dX6_comes_313 rfl (lv_at hl 0 rfl) ?_
              obtain ⟨hg21, hf⟩ := ob_guard hf
              refine va_iast hx hb hK hP hD hS 4 0 rfl rfl hg21 dX6_comes_314 (fun H locs hP hD hS => ?_)
              have hP : va_P G.1 vwCl (ce_X6 G.2.1 a0 (S0.1, S0.2.1, S0.2.2.1, (upd S0.2.2.2.1 (((5 + (11 * v2)) + 3).toNatClampNeg) r14), S0.2.2.2.2.1, S0.2.2.2.2.2.1, S0.2.2.2.2.2.2.1, S0.2.2.2.2.2.2.2.1, S0.2.2.2.2.2.2.2.2.1, S0.2.2.2.2.2.2.2.2.2.1, S0.2.2.2.2.2.2.2.2.2.2.1, S0.2.2.2.2.2.2.2.2.2.2.2.1, S0.2.2.2.2.2.2.2.2.2.2.2.2.1, S0.2.2.2.2.2.2.2.2.2.2.2.2.2)) H := hP
              have hD : va_D A (ce_X6 G.2.1 a0 (S0.1, S0.2.1, S0.2.2.1, (upd S0.2.2.2.1 (((5 + (11 * v2)) + 3).toNatClampNeg) r14), S0.2.2.2.2.1, S0.2.2.2.2.2.1, S0.2.2.2.2.2.2.1, S0.2.2.2.2.2.2.2.1, S0.2.2.2.2.2.2.2.2.1, S0.2.2.2.2.2.2.2.2.2.1, S0.2.2.2.2.2.2.2.2.2.2.1, S0.2.2.2.2.2.2.2.2.2.2.2.1, S0.2.2.2.2.2.2.2.2.2.2.2.2.1, S0.2.2.2.2.2.2.2.2.2.2.2.2.2)) := hD
              refine lv_aload_n hx hb dX6_comes_315 rfl (lv_at hl 1 rfl) ?_
              refine va_get (D := G.1) (ci := 6) (v := .ref a0.2.2.2.2.1) (C := RX6) (T := TX6) (N := 14) hx hb hts hinX6 hown hK hP 0 rfl rfl 3 (by decide) lk0 (fun _ h9 => h9) rfl dX6_comes_316 ?_
              refine lv_iconst (v := 5) hx hb dX6_comes_319 (by decide) ?_
              refine lv_bipush (v := 11) hx hb dX6_comes_320 (by decide) ?_
              refine lv_iload_n hx hb dX6_comes_322 rfl (lv_at hl 0 rfl) ?_
              refine lv_imul hx hb dX6_comes_323 ?_
              refine lv_iadd hx hb dX6_comes_324 ?_
              refine lv_iconst (v := 3) hx hb dX6_comes_325 (by decide) ?_
              refine lv_iadd hx hb dX6_comes_326 ?_
              refine lv_iload_n hx hb dX6_comes_327 rfl (lv_at hl 3 rfl) ?_
              obtain ⟨hg22, hf⟩ := ob_guard hf
              refine va_iast hx hb hK hP hD hS 4 0 rfl rfl hg22 dX6_comes_328 (fun H locs hP hD hS => ?_)
              have hP : va_P G.1 vwCl (ce_X6 G.2.1 a0 (S0.1, S0.2.1, S0.2.2.1, (upd (upd S0.2.2.2.1 (((5 + (11 * v2)) + 3).toNatClampNeg) r14) (((5 + (11 * r14)) + 3).toNatClampNeg) v2), S0.2.2.2.2.1, S0.2.2.2.2.2.1, S0.2.2.2.2.2.2.1, S0.2.2.2.2.2.2.2.1, S0.2.2.2.2.2.2.2.2.1, S0.2.2.2.2.2.2.2.2.2.1, S0.2.2.2.2.2.2.2.2.2.2.1, S0.2.2.2.2.2.2.2.2.2.2.2.1, S0.2.2.2.2.2.2.2.2.2.2.2.2.1, S0.2.2.2.2.2.2.2.2.2.2.2.2.2)) H := hP
              have hD : va_D A (ce_X6 G.2.1 a0 (S0.1, S0.2.1, S0.2.2.1, (upd (upd S0.2.2.2.1 (((5 + (11 * v2)) + 3).toNatClampNeg) r14) (((5 + (11 * r14)) + 3).toNatClampNeg) v2), S0.2.2.2.2.1, S0.2.2.2.2.2.1, S0.2.2.2.2.2.2.1, S0.2.2.2.2.2.2.2.1, S0.2.2.2.2.2.2.2.2.1, S0.2.2.2.2.2.2.2.2.2.1, S0.2.2.2.2.2.2.2.2.2.2.1, S0.2.2.2.2.2.2.2.2.2.2.2.1, S0.2.2.2.2.2.2.2.2.2.2.2.2.1, S0.2.2.2.2.2.2.2.2.2.2.2.2.2)) := hD
              refine lv_iconst (v := 1) hx hb dX6_comes_329 (by decide) ?_
              exact fin _ _ _ _ _ _ hf rfl hP hD hS dX6_comes_330
            · replace hf := ob_neg c20 hf
              exact blk299 _ hf _ _ hP hD hS _ (lv_sub hl [] rfl)
    · replace hf := ob_neg c13 hf
      refine lv_iconst (v := 1) hx hb dX6_comes_245 (by decide) ?_
      exact fin _ _ _ _ _ _ hf rfl hP hD hS dX6_comes_246
  have blk221 : ∀ (S0 : ST_X6) (v1 : Int32) (v2 : Int32), f_X6_comes_b221 S0 v1 v2 = some out → ∀ (H : Heap) (locs : List Loc), va_P G.1 vwCl (ce_X6 G.2.1 a0 S0) H → va_D A (ce_X6 G.2.1 a0 S0) → va_S A s.heap H locs → ∀ (ls : Array Slot), lv_has ls 4 [(0, .ref a0.1), (1, .int v1), (2, .int v2)] → W p l e (headSpec wsX6_comes rm_X6_comes).room s m args below meth c H locs 0 0 Q (F0 m 221 ls []) := by
    intro S0 v1 v2 hf H locs hP hD hS ls hl
    rw [f_X6_comes_b221] at hf
    refine lv_iload_n hx hb dX6_comes_221 rfl (lv_at hl 1 rfl) ?_
    refine lv_bipush (v := 102) hx hb dX6_comes_222 (by decide) ?_
    refine lv_icmp_ne (tgt := 239) hx hb dX6_comes_224 (by decide) (fun c23 => ?_) (fun c23 => ?_)
    · replace hf := ob_neg c23 hf
      exact blk239 _ _ _ hf _ _ hP hD hS _ (lv_sub hl [0, 1, 2] rfl)
    · replace hf := ob_pos c23 hf
      refine lv_aload_n hx hb dX6_comes_227 rfl (lv_at hl 0 rfl) ?_
      refine va_get (D := G.1) (ci := 6) (v := .ref a0.2.2.2.2.1) (C := RX6) (T := TX6) (N := 14) hx hb hts hinX6 hown hK hP 0 rfl rfl 3 (by decide) lk0 (fun _ h9 => h9) rfl dX6_comes_228 ?_
      refine lv_iconst (v := 3) hx hb dX6_comes_231 (by decide) ?_
      refine lv_dup2_11 hx hb dX6_comes_232 rfl rfl ?_
      refine va_iald hx hb hK hP 4 0 rfl rfl (by decide : inB 3 130) dX6_comes_233 ?_
      refine zl_top (y := S0.2.2.2.1 3) rfl ?_
      refine lv_iconst (v := 1) hx hb dX6_comes_234 (by decide) ?_
      refine lv_iload_n hx hb dX6_comes_235 rfl (lv_at hl 2 rfl) ?_
      refine lv_ishl hx hb dX6_comes_236 ?_
      refine lv_ior hx hb dX6_comes_237 ?_
      refine va_iast hx hb hK hP hD hS 4 0 rfl rfl (by decide : inB 3 130) dX6_comes_238 (fun H locs hP hD hS => ?_)
      have hP : va_P G.1 vwCl (ce_X6 G.2.1 a0 (S0.1, S0.2.1, S0.2.2.1, (upd S0.2.2.2.1 3 ((S0.2.2.2.1 3) ||| (1 <<< (v2 &&& 31)))), S0.2.2.2.2.1, S0.2.2.2.2.2.1, S0.2.2.2.2.2.2.1, S0.2.2.2.2.2.2.2.1, S0.2.2.2.2.2.2.2.2.1, S0.2.2.2.2.2.2.2.2.2.1, S0.2.2.2.2.2.2.2.2.2.2.1, S0.2.2.2.2.2.2.2.2.2.2.2.1, S0.2.2.2.2.2.2.2.2.2.2.2.2.1, S0.2.2.2.2.2.2.2.2.2.2.2.2.2)) H := hP
      have hD : va_D A (ce_X6 G.2.1 a0 (S0.1, S0.2.1, S0.2.2.1, (upd S0.2.2.2.1 3 ((S0.2.2.2.1 3) ||| (1 <<< (v2 &&& 31)))), S0.2.2.2.2.1, S0.2.2.2.2.2.1, S0.2.2.2.2.2.2.1, S0.2.2.2.2.2.2.2.1, S0.2.2.2.2.2.2.2.2.1, S0.2.2.2.2.2.2.2.2.2.1, S0.2.2.2.2.2.2.2.2.2.2.1, S0.2.2.2.2.2.2.2.2.2.2.2.1, S0.2.2.2.2.2.2.2.2.2.2.2.2.1, S0.2.2.2.2.2.2.2.2.2.2.2.2.2)) := hD
      exact blk239 _ _ _ hf _ _ hP hD hS _ (lv_sub hl [0, 1, 2] rfl)
  have go : ∀ (H : Heap) (locs : List Loc), va_P G.1 vwCl (ce_X6 G.2.1 a0 S0) H → va_D A (ce_X6 G.2.1 a0 S0) → va_S A s.heap H locs → ∀ (ls : Array Slot), lv_has ls 4 [(0, .ref a0.1), (1, .int p1)] → W p l e (headSpec wsX6_comes rm_X6_comes).room s m args below meth c H locs 0 0 Q (F0 m 0 ls []) := by
    intro H locs hP hD hS ls hl
    refine lv_iload_n hx hb dX6_comes_0 rfl (lv_at hl 1 rfl) ?_
    refine lv_bipush (v := 101) hx hb dX6_comes_1 (by decide) ?_
    refine lv_icmp_ne (tgt := 186) hx hb dX6_comes_3 (by decide) (fun c24 => ?_) (fun c24 => ?_)
    · replace hf := ob_neg c24 hf
      refine lv_aload_n hx hb dX6_comes_186 rfl (lv_at hl 0 rfl) ?_
      refine lv_aload_n hx hb dX6_comes_187 rfl (lv_at hl 0 rfl) ?_
      refine va_get (D := G.1) (ci := 6) (v := .ref a0.2.2.2.2.2.2.1) (C := RX6) (T := TX6) (N := 14) hx hb hts hinX6 hown hK hP 0 rfl rfl 6 (by decide) lk1 (fun _ h9 => h9) rfl dX6_comes_188 ?_
      refine lv_iconst (v := 0) hx hb dX6_comes_191 (by decide) ?_
      refine va_iald hx hb hK hP 6 0 rfl rfl (by decide : inB 0 10) dX6_comes_192 ?_
      refine zl_top (y := S0.2.2.2.2.2.2.1 0) rfl ?_
      obtain ⟨r25, hr25, hf⟩ := ob_bind hf
      have hFc := va_free (wc := ce_X6 G.2.1 a0 S0) hD hS hA [0, 1, 2, 3, 4, 5, 6, 7, 8, 9] rfl
      refine zc_ro (va_runV (As := [.int (S0.2.2.2.2.2.2.1 0)]) (rest := []) ⟨hx, hb, hml, hown, hts⟩ (c_X6_numbered l G a0 H.size S0 (S0.2.2.2.2.2.2.1 0) _ hr25) (cwV 1 hts gX6_comes_X6_numbered rfl rfl rfl (by decide +kernel) ⟨Nat.le_of_ble_eq_true rfl, Nat.le_of_ble_eq_true rfl⟩) ⟨PcM.blind, va_recv hK hP (ci := 6) (q0 := 0) rfl rfl, PcM.ok hP hD hK hE hS hFc⟩ rfl rfl hl.1 rfl (lv_room (Nat.le_of_ble_eq_true rfl)) dX6_comes_193 ⟨Nat.le_refl _, Nat.le_refl _⟩) hP hD hS hA [0, 1, 2, 3, 4, 5, 6, 7, 8, 9] rfl (fun H locs hP hS => ?_)
      refine lv_istore_n (lv' := [(2, .int r25), (0, .ref a0.1), (1, .int p1)]) hx hb dX6_comes_196 rfl hl (by decide) rfl (fun ls hl => ?_)
      refine lv_iload_n hx hb dX6_comes_197 rfl (lv_at hl 0 rfl) ?_
      refine lv_if_ge (tgt := 203) hx hb dX6_comes_198 (by decide) (fun c26 => ?_) (fun c26 => ?_)
      · replace hf := ob_pos c26 hf
        refine lv_iload_n hx hb dX6_comes_203 rfl (lv_at hl 2 rfl) ?_
        refine lv_bipush (v := 117) hx hb dX6_comes_204 (by decide) ?_
        refine lv_icmp_ne (tgt := 221) hx hb dX6_comes_206 (by decide) (fun c27 => ?_) (fun c27 => ?_)
        · replace hf := ob_neg c27 hf
          exact blk221 _ _ _ hf _ _ hP hD hS _ (lv_sub hl [1, 2, 0] rfl)
        · replace hf := ob_pos c27 hf
          refine lv_aload_n hx hb dX6_comes_209 rfl (lv_at hl 1 rfl) ?_
          refine va_get (D := G.1) (ci := 6) (v := .ref a0.2.2.2.2.1) (C := RX6) (T := TX6) (N := 14) hx hb hts hinX6 hown hK hP 0 rfl rfl 3 (by decide) lk0 (fun _ h9 => h9) rfl dX6_comes_210 ?_
          refine lv_iconst (v := 2) hx hb dX6_comes_213 (by decide) ?_
          refine lv_dup2_11 hx hb dX6_comes_214 rfl rfl ?_
          refine va_iald hx hb hK hP 4 0 rfl rfl (by decide : inB 2 130) dX6_comes_215 ?_
          refine zl_top (y := S0.2.2.2.1 2) rfl ?_
          refine lv_iconst (v := 1) hx hb dX6_comes_216 (by decide) ?_
          refine lv_iload_n hx hb dX6_comes_217 rfl (lv_at hl 0 rfl) ?_
          refine lv_ishl hx hb dX6_comes_218 ?_
          refine lv_ior hx hb dX6_comes_219 ?_
          refine va_iast hx hb hK hP hD hS 4 0 rfl rfl (by decide : inB 2 130) dX6_comes_220 (fun H locs hP hD hS => ?_)
          have hP : va_P G.1 vwCl (ce_X6 G.2.1 a0 (S0.1, S0.2.1, S0.2.2.1, (upd S0.2.2.2.1 2 ((S0.2.2.2.1 2) ||| (1 <<< (r25 &&& 31)))), S0.2.2.2.2.1, S0.2.2.2.2.2.1, S0.2.2.2.2.2.2.1, S0.2.2.2.2.2.2.2.1, S0.2.2.2.2.2.2.2.2.1, S0.2.2.2.2.2.2.2.2.2.1, S0.2.2.2.2.2.2.2.2.2.2.1, S0.2.2.2.2.2.2.2.2.2.2.2.1, S0.2.2.2.2.2.2.2.2.2.2.2.2.1, S0.2.2.2.2.2.2.2.2.2.2.2.2.2)) H := hP
          have hD : va_D A (ce_X6 G.2.1 a0 (S0.1, S0.2.1, S0.2.2.1, (upd S0.2.2.2.1 2 ((S0.2.2.2.1 2) ||| (1 <<< (r25 &&& 31)))), S0.2.2.2.2.1, S0.2.2.2.2.2.1, S0.2.2.2.2.2.2.1, S0.2.2.2.2.2.2.2.1, S0.2.2.2.2.2.2.2.2.1, S0.2.2.2.2.2.2.2.2.2.1, S0.2.2.2.2.2.2.2.2.2.2.1, S0.2.2.2.2.2.2.2.2.2.2.2.1, S0.2.2.2.2.2.2.2.2.2.2.2.2.1, S0.2.2.2.2.2.2.2.2.2.2.2.2.2)) := hD
          exact blk221 _ _ _ hf _ _ hP hD hS _ (lv_sub hl [1, 2, 0] rfl)
      · replace hf := ob_neg c26 hf
        refine lv_iconst (v := 0) hx hb dX6_comes_201 (by decide) ?_
        exact fin _ _ _ _ _ _ hf rfl hP hD hS dX6_comes_202
    · replace hf := ob_pos c24 hf
      refine lv_aload_n hx hb dX6_comes_6 rfl (lv_at hl 0 rfl) ?_
      refine va_get (D := G.1) (ci := 6) (v := .ref a0.2.2.2.2.2.2.1) (C := RX6) (T := TX6) (N := 14) hx hb hts hinX6 hown hK hP 0 rfl rfl 6 (by decide) lk1 (fun _ h9 => h9) rfl dX6_comes_7 ?_
      refine lv_iconst (v := 0) hx hb dX6_comes_10 (by decide) ?_
      refine va_iald hx hb hK hP 6 0 rfl rfl (by decide : inB 0 10) dX6_comes_11 ?_
      refine zl_top (y := S0.2.2.2.2.2.2.1 0) rfl ?_
      refine lv_bipush (v := 10) hx hb dX6_comes_12 (by decide) ?_
      refine lv_icmp_lt (tgt := 41) hx hb dX6_comes_14 (by decide) (fun c28 => ?_) (fun c28 => ?_)
      · replace hf := ob_pos c28 hf
        exact blk41 _ hf _ _ hP hD hS _ (lv_sub hl [] rfl)
      · replace hf := ob_neg c28 hf
        refine lv_aload_n hx hb dX6_comes_17 rfl (lv_at hl 0 rfl) ?_
        refine lv_aload_n hx hb dX6_comes_18 rfl (lv_at hl 0 rfl) ?_
        refine va_get (D := G.1) (ci := 6) (v := .ref a0.2.2.2.2.2.2.1) (C := RX6) (T := TX6) (N := 14) hx hb hts hinX6 hown hK hP 0 rfl rfl 6 (by decide) lk1 (fun _ h9 => h9) rfl dX6_comes_19 ?_
        refine lv_iconst (v := 0) hx hb dX6_comes_22 (by decide) ?_
        refine va_iald hx hb hK hP 6 0 rfl rfl (by decide : inB 0 10) dX6_comes_23 ?_
        refine zl_top (y := S0.2.2.2.2.2.2.1 0) rfl ?_
        obtain ⟨r29, hr29, hf⟩ := ob_bind hf
        have hFc := va_free (wc := ce_X6 G.2.1 a0 S0) hD hS hA [0, 1, 2, 3, 4, 5, 6, 7, 8, 9] rfl
        refine zc_ro (va_runV (As := [.int (S0.2.2.2.2.2.2.1 0)]) (rest := []) ⟨hx, hb, hml, hown, hts⟩ (c_X6_numbered l G a0 H.size S0 (S0.2.2.2.2.2.2.1 0) _ hr29) (cwV 1 hts gX6_comes_X6_numbered rfl rfl rfl (by decide +kernel) ⟨Nat.le_of_ble_eq_true rfl, Nat.le_of_ble_eq_true rfl⟩) ⟨PcM.blind, va_recv hK hP (ci := 6) (q0 := 0) rfl rfl, PcM.ok hP hD hK hE hS hFc⟩ rfl rfl hl.1 rfl (lv_room (Nat.le_of_ble_eq_true rfl)) dX6_comes_24 ⟨Nat.le_refl _, Nat.le_refl _⟩) hP hD hS hA [0, 1, 2, 3, 4, 5, 6, 7, 8, 9] rfl (fun H locs hP hS => ?_)
        refine lv_if_ge (tgt := 41) hx hb dX6_comes_27 (by decide) (fun c30 => ?_) (fun c30 => ?_)
        · replace hf := ob_pos c30 hf
          exact blk41 _ hf _ _ hP hD hS _ (lv_sub hl [] rfl)
        · replace hf := ob_neg c30 hf
          refine lv_aload_n hx hb dX6_comes_30 rfl (lv_at hl 0 rfl) ?_
          refine va_get (D := G.1) (ci := 6) (v := .ref a0.2.2.2.2.1) (C := RX6) (T := TX6) (N := 14) hx hb hts hinX6 hown hK hP 0 rfl rfl 3 (by decide) lk0 (fun _ h9 => h9) rfl dX6_comes_31 ?_
          refine lv_iconst (v := 0) hx hb dX6_comes_34 (by decide) ?_
          refine va_iald hx hb hK hP 4 0 rfl rfl (by decide : inB 0 130) dX6_comes_35 ?_
          refine zl_top (y := S0.2.2.2.1 0) rfl ?_
          refine lv_bipush (v := 7) hx hb dX6_comes_36 (by decide) ?_
          refine lv_icmp_ne (tgt := 43) hx hb dX6_comes_38 (by decide) (fun c31 => ?_) (fun c31 => ?_)
          · replace hf := ob_neg c31 hf
            refine lv_iconst (v := 3) hx hb dX6_comes_43 (by decide) ?_
            refine lv_istore_n (lv' := [(2, .int 3), (0, .ref a0.1), (1, .int p1)]) hx hb dX6_comes_44 rfl hl (by decide) rfl (fun ls hl => ?_)
            exact blk45 4096 _ _ hf _ _ hP hD hS _ (lv_sub hl [1, 0] rfl)
          · replace hf := ob_pos c31 hf
            exact blk41 _ hf _ _ hP hD hS _ (lv_sub hl [] rfl)
  exact go _ _ hP hD hS _ hl
abbrev rm_X6_reads : Room := { frames := 5, cells := 0, slots := 0, locals := 111 }
set_option maxHeartbeats 4000000 in
set_option maxRecDepth 100000 in
theorem c_X6_reads (l : Launch) (G : zG) (a0 : AT_X6) (sz : Nat) (S0 : ST_X6) (out : Int32 × ST_X6) (hf : f_X6_reads S0 = some out) : Met l yX6_reads wsX6_reads rm_X6_reads (PcM G (ce_X6 G.2.1 a0 S0) [.ref a0.1] sz) (QWr G (fun u => ce_X6 G.2.1 a0 u) out (va_A (ce_X6 G.2.1 a0 S0) sz)) 0 0 (va_A (ce_X6 G.2.1 a0 S0) sz) := by
  rw [f_X6_reads] at hf
  refine Met.ofW (cc := cX6_reads) (maxL := 5) (ret := (some .int)) (by decide) rfl ?_
  intro p e s m args below meth c s₁ B hml hv
  obtain ⟨hargs, hsz, hP, hK, hD0, hE⟩ := hv
  have hx := B.exec
  have hb := B.bytes
  have hr := B.returns
  have hts := atoms_spec (ws := wsX6_reads) B.pre
  have hown : s.vm.findClass RX6 = some m.cls := findClass_of_methodNamed B.named
  have hlocks := B.notSynchronized
  subst hsz
  have hD := hD0.self (sz := s.heap.size)
  generalize hAe : va_A (ce_X6 G.2.1 a0 S0) s.heap.size = A at hD hE ⊢
  have hA : ∀ q : Nat, s.heap.size ≤ q → A q := fun q h => by rw [← hAe]; exact Or.inr h
  have hS : va_S A s.heap s.heap [] := va_S.rf
  have hl := lv_entry ([.ref a0.1]) (n := 5) (Nat.le_of_ble_eq_true rfl)
  have hent : entryFrame m args 5 = F0 m 0 ((lg_sl ([.ref a0.1]) ++ List.replicate (5 - (lg_sl ([.ref a0.1])).length) Slot.unset).toArray) [] := by rw [hargs, lg_entry_eq]
  rw [hent]
  clear hent
  generalize (lg_sl ([.ref a0.1]) ++ List.replicate (5 - (lg_sl ([.ref a0.1])).length) Slot.unset).toArray = ls at hl ⊢
  have hl : lv_has ls 5 [(0, .ref a0.1)] := hl
  have lk0 := hts (Cond.fieldLink RX6 53 "EnginesOnListModel" "at" "I") (List.mem_of_getElem? (i := 1) rfl)
  have lk1 := hts (Cond.fieldLink RX6 45 "EnginesOnListModel" "taped" "I") (List.mem_of_getElem? (i := 2) rfl)
  have lk2 := hts (Cond.fieldLink RX6 19 "EnginesOnListModel" "read" "[I") (List.mem_of_getElem? (i := 4) rfl)
  have lk3 := hts (Cond.fieldLink RX6 13 "EnginesOnListModel" "s" "[I") (List.mem_of_getElem? (i := 3) rfl)
  have hinX6 : ∀ w ∈ wsX60, w ∈ wsX6_reads := by decide +kernel
  have fin : ∀ (pc : Nat) (v : Int32) (u : ST_X6) (H : Heap) (locs : List Loc) (ls : Array Slot), some (v, u) = some out → va_P G.1 vwCl (ce_X6 G.2.1 a0 u) H → va_D A (ce_X6 G.2.1 a0 u) → va_S A s.heap H locs → decode cX6_reads pc = .ok (.ireturn, 1) → W p l e (headSpec wsX6_reads rm_X6_reads).room s m args below meth c H locs 0 0 (MQ below (QWr G (fun u => ce_X6 G.2.1 a0 u) out A) args s 0 0 A) (F0 m pc ls [.int v]) := fun pc v u H locs ls ho hP hD hS hd => W.iret (v := v) hx hb hr (fun t ht hW => ⟨⟨v, u, rfl, ob_pair ho, by first | (rw [ht]; exact hP) | (dsimp only; rw [ht]; exact hP), hD⟩, hS.F ht⟩) hS.2.2 hd
  generalize MQ below (QWr G (fun u => ce_X6 G.2.1 a0 u) out A) args s 0 0 A = Q at fin ⊢
  have blk53 : ∀ (fu53 : Nat), ∀ (S0 : ST_X6) (v1 : Int32), f_X6_reads_b53 fu53 S0 v1 = some out → ∀ (H : Heap) (locs : List Loc), va_P G.1 vwCl (ce_X6 G.2.1 a0 S0) H → va_D A (ce_X6 G.2.1 a0 S0) → va_S A s.heap H locs → ∀ (ls : Array Slot), lv_has ls 5 [(0, .ref a0.1), (1, .int v1)] → W p l e (headSpec wsX6_reads rm_X6_reads).room s m args below meth c H locs 0 0 Q (F0 m 53 ls []) := by
    intro fu53
    induction fu53 with
    | zero => intro S0 v1 hf; exact ob_none hf
    | succ fu53 ih53 =>
      intro S0 v1 hf H locs hP hD hS ls hl
      rw [f_X6_reads_b53] at hf
      refine lv_aload_n hx hb dX6_reads_53 rfl (lv_at hl 0 rfl) ?_
      refine va_get (D := G.1) (ci := 6) (v := .int S0.2.2.2.2.2.2.2.2.1) (C := RX6) (T := TX6) (N := 14) hx hb hts hinX6 hown hK hP 0 rfl rfl 8 (by decide) lk0 (fun _ h9 => h9) rfl dX6_reads_54 ?_
      refine lv_aload_n hx hb dX6_reads_57 rfl (lv_at hl 0 rfl) ?_
      refine va_get (D := G.1) (ci := 6) (v := .int S0.2.2.2.2.2.2.2.1) (C := RX6) (T := TX6) (N := 14) hx hb hts hinX6 hown hK hP 0 rfl rfl 7 (by decide) lk1 (fun _ h9 => h9) rfl dX6_reads_58 ?_
      refine lv_icmp_ge (tgt := 97) hx hb dX6_reads_61 (by decide) (fun c1 => ?_) (fun c1 => ?_)
      · replace hf := ob_pos c1 hf
        refine lv_aload_n hx hb dX6_reads_97 rfl (lv_at hl 0 rfl) ?_
        refine va_get (D := G.1) (ci := 6) (v := .ref a0.2.2.2.2.1) (C := RX6) (T := TX6) (N := 14) hx hb hts hinX6 hown hK hP 0 rfl rfl 3 (by decide) lk2 (fun _ h9 => h9) rfl dX6_reads_98 ?_
        refine lv_aload_n hx hb dX6_reads_101 rfl (lv_at hl 0 rfl) ?_
        refine va_get (D := G.1) (ci := 6) (v := .ref a0.2.2.1) (C := RX6) (T := TX6) (N := 14) hx hb hts hinX6 hown hK hP 0 rfl rfl 1 (by decide) lk3 (fun _ h9 => h9) rfl dX6_reads_102 ?_
        obtain ⟨r2, hr2, hf⟩ := ob_bind hf
        have hPc : va_P G.1 vwCl (ce_A130 G.2.1 a0.2.2.2.2.1 S0.2.2.2.1 ++ ce_A130 G.2.1 a0.2.2.1 S0.2.1) H := hP.sub [4, 2] rfl
        have hDc : va_D A (ce_A130 G.2.1 a0.2.2.2.2.1 S0.2.2.2.1 ++ ce_A130 G.2.1 a0.2.2.1 S0.2.1) := hD.sub [4, 2] (by decide) rfl
        have hFc := va_free (wc := ce_A130 G.2.1 a0.2.2.2.2.1 S0.2.2.2.1 ++ ce_A130 G.2.1 a0.2.2.1 S0.2.1) hD hS hA [4, 2] rfl
        refine zc_wv (cf := (fun u => ce_A130 G.2.1 a0.2.2.2.2.1 S0.2.2.2.1 ++ ce_A130 G.2.1 a0.2.2.1 u)) (ws' := ce_X6 G.2.1 a0 (S0.1, r2, S0.2.2.1, S0.2.2.2.1, S0.2.2.2.2.1, S0.2.2.2.2.2.1, S0.2.2.2.2.2.2.1, S0.2.2.2.2.2.2.2.1, S0.2.2.2.2.2.2.2.2.1, S0.2.2.2.2.2.2.2.2.2.1, S0.2.2.2.2.2.2.2.2.2.2.1, S0.2.2.2.2.2.2.2.2.2.2.2.1, S0.2.2.2.2.2.2.2.2.2.2.2.2.1, S0.2.2.2.2.2.2.2.2.2.2.2.2.2)) (va_runS (As := [.ref a0.2.2.2.2.1, .ref a0.2.2.1]) (rest := []) ⟨hx, hb, hml, hown, hts⟩ (c_X6_copies l G a0.2.2.2.2.1 a0.2.2.1 H.size S0.2.2.2.1 S0.2.1 _ hr2) (va_cwS 2 hts gX6_reads_X6_copies rfl rfl rfl (by decide +kernel) ⟨Nat.le_of_ble_eq_true rfl, Nat.le_of_ble_eq_true rfl⟩) ⟨PcM.blind, PcM.ok hPc hDc hK hE hS hFc⟩ rfl rfl hl.1 rfl (lv_room (Nat.le_of_ble_eq_true rfl)) dX6_reads_105 ⟨Nat.le_refl _, Nat.le_refl _⟩) hP hD hS hA [4, 2] [0, 1, 3, 5, 6, 7, 8, 9] [0, 1, 9, 2, 8, 3, 4, 5, 6, 7] rfl rfl (by decide) (by decide) (by decide) rfl (fun H locs hP hD hS => ?_)
        refine lv_iload_n hx hb dX6_reads_108 rfl (lv_at hl 1 rfl) ?_
        exact fin _ _ _ _ _ _ hf hP hD hS dX6_reads_109
      · replace hf := ob_neg c1 hf
        refine lv_aload_n hx hb dX6_reads_64 rfl (lv_at hl 0 rfl) ?_
        refine va_get (D := G.1) (ci := 6) (v := .int S0.2.2.2.2.2.2.2.2.1) (C := RX6) (T := TX6) (N := 14) hx hb hts hinX6 hown hK hP 0 rfl rfl 8 (by decide) lk0 (fun _ h9 => h9) rfl dX6_reads_65 ?_
        refine lv_istore_n (lv' := [(2, .int S0.2.2.2.2.2.2.2.2.1), (0, .ref a0.1), (1, .int v1)]) hx hb dX6_reads_68 rfl hl (by decide) rfl (fun ls hl => ?_)
        refine lv_aload_n hx hb dX6_reads_69 rfl (lv_at hl 1 rfl) ?_
        obtain ⟨r3, hr3, hf⟩ := ob_bind hf
        have hFc := va_free (wc := ce_X6 G.2.1 a0 S0) hD hS hA [0, 1, 2, 3, 4, 5, 6, 7, 8, 9] rfl
        refine zc_ro (va_runV (As := []) (rest := []) ⟨hx, hb, hml, hown, hts⟩ (c_X6_sign l G a0 H.size S0 _ hr3) (cwV 0 hts gX6_reads_X6_sign rfl rfl rfl (by decide +kernel) ⟨Nat.le_of_ble_eq_true rfl, Nat.le_of_ble_eq_true rfl⟩) ⟨PcM.blind, va_recv hK hP (ci := 6) (q0 := 0) rfl rfl, PcM.ok hP hD hK hE hS hFc⟩ rfl rfl hl.1 rfl (lv_room (Nat.le_of_ble_eq_true rfl)) dX6_reads_70 ⟨Nat.le_refl _, Nat.le_refl _⟩) hP hD hS hA [0, 1, 2, 3, 4, 5, 6, 7, 8, 9] rfl (fun H locs hP hS => ?_)
        refine lv_istore_n (lv' := [(3, .int r3), (2, .int S0.2.2.2.2.2.2.2.2.1), (0, .ref a0.1), (1, .int v1)]) hx hb dX6_reads_73 rfl hl (by decide) rfl (fun ls hl => ?_)
        refine lv_aload_n hx hb dX6_reads_74 rfl (lv_at hl 2 rfl) ?_
        obtain ⟨r4, hr4, hf⟩ := ob_bind hf
        have hFc := va_free (wc := ce_X6 G.2.1 a0 S0) hD hS hA [0, 1, 2, 3, 4, 5, 6, 7, 8, 9] rfl
        refine zc_wr (cf := (fun u => ce_X6 G.2.1 a0 u)) (ws' := ce_X6 G.2.1 a0 r4.2) (va_runV (As := []) (rest := []) ⟨hx, hb, hml, hown, hts⟩ (c_X6_readsStatement l G a0 H.size S0 _ hr4) (cwV 0 hts gX6_reads_X6_readsStatement rfl rfl rfl (by decide +kernel) ⟨Nat.le_of_ble_eq_true rfl, Nat.le_of_ble_eq_true rfl⟩) ⟨PcM.blind, va_recv hK hP (ci := 6) (q0 := 0) rfl rfl, PcM.ok hP hD hK hE hS hFc⟩ rfl rfl hl.1 rfl (lv_room (Nat.le_of_ble_eq_true rfl)) dX6_reads_75 ⟨Nat.le_refl _, Nat.le_refl _⟩) hP hD hS hA [0, 1, 2, 3, 4, 5, 6, 7, 8, 9] [] [0, 1, 2, 3, 4, 5, 6, 7, 8, 9] rfl rfl (by decide) (by decide) (by decide) rfl (fun H locs hP hD hS => ?_)
        refine lv_istore (lv' := [(4, .int r4.1), (3, .int r3), (2, .int S0.2.2.2.2.2.2.2.2.1), (0, .ref a0.1), (1, .int v1)]) hx hb dX6_reads_78 hl (by decide) rfl (fun ls hl => ?_)
        refine lv_aload_n hx hb dX6_reads_80 rfl (lv_at hl 3 rfl) ?_
        refine lv_iload_n hx hb dX6_reads_81 rfl (lv_at hl 1 rfl) ?_
        obtain ⟨r5, hr5, hf⟩ := ob_bind hf
        have hFc := va_free (wc := ce_X6 G.2.1 a0 r4.2) hD hS hA [0, 1, 2, 3, 4, 5, 6, 7, 8, 9] rfl
        refine zc_wr (cf := (fun u => ce_X6 G.2.1 a0 u)) (ws' := ce_X6 G.2.1 a0 r5.2) (va_runV (As := [.int r3]) (rest := []) ⟨hx, hb, hml, hown, hts⟩ (c_X6_comes l G a0 H.size r4.2 r3 _ hr5) (cwV 1 hts gX6_reads_X6_comes rfl rfl rfl (by decide +kernel) ⟨Nat.le_of_ble_eq_true rfl, Nat.le_of_ble_eq_true rfl⟩) ⟨PcM.blind, va_recv hK hP (ci := 6) (q0 := 0) rfl rfl, PcM.ok hP hD hK hE hS hFc⟩ rfl rfl hl.1 rfl (lv_room (Nat.le_of_ble_eq_true rfl)) dX6_reads_82 ⟨Nat.le_refl _, Nat.le_refl _⟩) hP hD hS hA [0, 1, 2, 3, 4, 5, 6, 7, 8, 9] [] [0, 1, 2, 3, 4, 5, 6, 7, 8, 9] rfl rfl (by decide) (by decide) (by decide) rfl (fun H locs hP hD hS => ?_)
        refine lv_if_ne (tgt := 94) hx hb dX6_reads_85 (by decide) (fun c6 => ?_) (fun c6 => ?_)
        · replace hf := ob_neg c6 hf
          refine lv_goto (tgt := 53) hx hb dX6_reads_94 (by decide) ?_
          exact ih53 _ _ hf _ _ hP hD hS _ (lv_sub hl [3, 4] rfl)
        · replace hf := ob_pos c6 hf
          refine lv_sipush (v := (-2000)) hx hb dX6_reads_88 (by decide) ?_
          refine lv_iload_n hx hb dX6_reads_91 rfl (lv_at hl 2 rfl) ?_
          refine lv_isub hx hb dX6_reads_92 ?_
          exact fin _ _ _ _ _ _ hf hP hD hS dX6_reads_93
  have blk7 : ∀ (fu7 : Nat), ∀ (S0 : ST_X6) (v1 : Int32), f_X6_reads_b7 fu7 S0 v1 = some out → ∀ (H : Heap) (locs : List Loc), va_P G.1 vwCl (ce_X6 G.2.1 a0 S0) H → va_D A (ce_X6 G.2.1 a0 S0) → va_S A s.heap H locs → ∀ (ls : Array Slot), lv_has ls 5 [(0, .ref a0.1), (1, .int v1)] → W p l e (headSpec wsX6_reads rm_X6_reads).room s m args below meth c H locs 0 0 Q (F0 m 7 ls []) := by
    intro fu7
    induction fu7 with
    | zero => intro S0 v1 hf; exact ob_none hf
    | succ fu7 ih7 =>
      intro S0 v1 hf H locs hP hD hS ls hl
      rw [f_X6_reads_b7] at hf
      refine lv_aload_n hx hb dX6_reads_7 rfl (lv_at hl 0 rfl) ?_
      obtain ⟨r7, hr7, hf⟩ := ob_bind hf
      have hFc := va_free (wc := ce_X6 G.2.1 a0 S0) hD hS hA [0, 1, 2, 3, 4, 5, 6, 7, 8, 9] rfl
      refine zc_wr (cf := (fun u => ce_X6 G.2.1 a0 u)) (ws' := ce_X6 G.2.1 a0 r7.2) (va_runV (As := []) (rest := []) ⟨hx, hb, hml, hown, hts⟩ (c_X6_readsStatement l G a0 H.size S0 _ hr7) (cwV 0 hts gX6_reads_X6_readsStatement rfl rfl rfl (by decide +kernel) ⟨Nat.le_of_ble_eq_true rfl, Nat.le_of_ble_eq_true rfl⟩) ⟨PcM.blind, va_recv hK hP (ci := 6) (q0 := 0) rfl rfl, PcM.ok hP hD hK hE hS hFc⟩ rfl rfl hl.1 rfl (lv_room (Nat.le_of_ble_eq_true rfl)) dX6_reads_8 ⟨Nat.le_refl _, Nat.le_refl _⟩) hP hD hS hA [0, 1, 2, 3, 4, 5, 6, 7, 8, 9] [] [0, 1, 2, 3, 4, 5, 6, 7, 8, 9] rfl rfl (by decide) (by decide) (by decide) rfl (fun H locs hP hD hS => ?_)
      refine lv_if_ne (tgt := 23) hx hb dX6_reads_11 (by decide) (fun c8 => ?_) (fun c8 => ?_)
      · replace hf := ob_neg c8 hf
        refine lv_iinc (v := v1 + 1) (lv' := [(1, .int (v1 + 1)), (0, .ref a0.1)]) hx hb dX6_reads_23 hl (k := 1) rfl rfl (by decide) rfl (fun ls hl => ?_)
        refine lv_aload_n hx hb dX6_reads_26 rfl (lv_at hl 1 rfl) ?_
        refine va_get (D := G.1) (ci := 6) (v := .int r7.2.2.2.2.2.2.2.2.2.1) (C := RX6) (T := TX6) (N := 14) hx hb hts hinX6 hown hK hP 0 rfl rfl 8 (by decide) lk0 (fun _ h9 => h9) rfl dX6_reads_27 ?_
        refine lv_aload_n hx hb dX6_reads_30 rfl (lv_at hl 1 rfl) ?_
        refine va_get (D := G.1) (ci := 6) (v := .int r7.2.2.2.2.2.2.2.2.1) (C := RX6) (T := TX6) (N := 14) hx hb hts hinX6 hown hK hP 0 rfl rfl 7 (by decide) lk1 (fun _ h9 => h9) rfl dX6_reads_31 ?_
        refine lv_icmp_lt (tgt := 7) hx hb dX6_reads_34 (by decide) (fun c9 => ?_) (fun c9 => ?_)
        · replace hf := ob_pos c9 hf
          exact ih7 _ _ hf _ _ hP hD hS _ (lv_sub hl [1, 0] rfl)
        · replace hf := ob_neg c9 hf
          refine lv_aload_n hx hb dX6_reads_37 rfl (lv_at hl 1 rfl) ?_
          refine va_get (D := G.1) (ci := 6) (v := .ref a0.2.2.1) (C := RX6) (T := TX6) (N := 14) hx hb hts hinX6 hown hK hP 0 rfl rfl 1 (by decide) lk3 (fun _ h9 => h9) rfl dX6_reads_38 ?_
          refine lv_aload_n hx hb dX6_reads_41 rfl (lv_at hl 1 rfl) ?_
          refine va_get (D := G.1) (ci := 6) (v := .ref a0.2.2.2.2.1) (C := RX6) (T := TX6) (N := 14) hx hb hts hinX6 hown hK hP 0 rfl rfl 3 (by decide) lk2 (fun _ h9 => h9) rfl dX6_reads_42 ?_
          obtain ⟨r10, hr10, hf⟩ := ob_bind hf
          have hPc : va_P G.1 vwCl (ce_A130 G.2.1 a0.2.2.1 r7.2.2.1 ++ ce_A130 G.2.1 a0.2.2.2.2.1 r7.2.2.2.2.1) H := hP.sub [2, 4] rfl
          have hDc : va_D A (ce_A130 G.2.1 a0.2.2.1 r7.2.2.1 ++ ce_A130 G.2.1 a0.2.2.2.2.1 r7.2.2.2.2.1) := hD.sub [2, 4] (by decide) rfl
          have hFc := va_free (wc := ce_A130 G.2.1 a0.2.2.1 r7.2.2.1 ++ ce_A130 G.2.1 a0.2.2.2.2.1 r7.2.2.2.2.1) hD hS hA [2, 4] rfl
          refine zc_wv (cf := (fun u => ce_A130 G.2.1 a0.2.2.1 r7.2.2.1 ++ ce_A130 G.2.1 a0.2.2.2.2.1 u)) (ws' := ce_X6 G.2.1 a0 (r7.2.1, r7.2.2.1, r7.2.2.2.1, r10, r7.2.2.2.2.2.1, r7.2.2.2.2.2.2.1, r7.2.2.2.2.2.2.2.1, r7.2.2.2.2.2.2.2.2.1, r7.2.2.2.2.2.2.2.2.2.1, r7.2.2.2.2.2.2.2.2.2.2.1, r7.2.2.2.2.2.2.2.2.2.2.2.1, r7.2.2.2.2.2.2.2.2.2.2.2.2.1, r7.2.2.2.2.2.2.2.2.2.2.2.2.2.1, r7.2.2.2.2.2.2.2.2.2.2.2.2.2.2)) (va_runS (As := [.ref a0.2.2.1, .ref a0.2.2.2.2.1]) (rest := []) ⟨hx, hb, hml, hown, hts⟩ (c_X6_copies l G a0.2.2.1 a0.2.2.2.2.1 H.size r7.2.2.1 r7.2.2.2.2.1 _ hr10) (va_cwS 2 hts gX6_reads_X6_copies rfl rfl rfl (by decide +kernel) ⟨Nat.le_of_ble_eq_true rfl, Nat.le_of_ble_eq_true rfl⟩) ⟨PcM.blind, PcM.ok hPc hDc hK hE hS hFc⟩ rfl rfl hl.1 rfl (lv_room (Nat.le_of_ble_eq_true rfl)) dX6_reads_45 ⟨Nat.le_refl _, Nat.le_refl _⟩) hP hD hS hA [2, 4] [0, 1, 3, 5, 6, 7, 8, 9] [0, 1, 8, 2, 9, 3, 4, 5, 6, 7] rfl rfl (by decide) (by decide) (by decide) rfl (fun H locs hP hD hS => ?_)
          refine lv_aload_n hx hb dX6_reads_48 rfl (lv_at hl 1 rfl) ?_
          refine lv_iconst (v := 0) hx hb dX6_reads_49 (by decide) ?_
          refine va_put (D := G.1) (ci := 6) (v := .int 0) (ty := .int) (C := RX6) (T := TX6) (N := 14) hx hb hts hinX6 tyX6 tyX6_ok nmX6 hown hK hP hD hS 0 rfl rfl 8 (by decide) lk0 (fun _ h9 => h9) rfl (by decide +kernel) rfl rfl (Nat.le_of_ble_eq_true rfl) dX6_reads_50 (fun H locs hP hD hS => ?_)
          have hP : va_P G.1 vwCl (ce_X6 G.2.1 a0 (r7.2.1, r7.2.2.1, r7.2.2.2.1, r10, r7.2.2.2.2.2.1, r7.2.2.2.2.2.2.1, r7.2.2.2.2.2.2.2.1, r7.2.2.2.2.2.2.2.2.1, 0, r7.2.2.2.2.2.2.2.2.2.2.1, r7.2.2.2.2.2.2.2.2.2.2.2.1, r7.2.2.2.2.2.2.2.2.2.2.2.2.1, r7.2.2.2.2.2.2.2.2.2.2.2.2.2.1, r7.2.2.2.2.2.2.2.2.2.2.2.2.2.2)) H := hP
          have hD : va_D A (ce_X6 G.2.1 a0 (r7.2.1, r7.2.2.1, r7.2.2.2.1, r10, r7.2.2.2.2.2.1, r7.2.2.2.2.2.2.1, r7.2.2.2.2.2.2.2.1, r7.2.2.2.2.2.2.2.2.1, 0, r7.2.2.2.2.2.2.2.2.2.2.1, r7.2.2.2.2.2.2.2.2.2.2.2.1, r7.2.2.2.2.2.2.2.2.2.2.2.2.1, r7.2.2.2.2.2.2.2.2.2.2.2.2.2.1, r7.2.2.2.2.2.2.2.2.2.2.2.2.2.2)) := hD
          exact blk53 4096 _ _ hf _ _ hP hD hS _ (lv_sub hl [1, 0] rfl)
      · replace hf := ob_pos c8 hf
        refine lv_sipush (v := (-1000)) hx hb dX6_reads_14 (by decide) ?_
        refine lv_aload_n hx hb dX6_reads_17 rfl (lv_at hl 0 rfl) ?_
        refine va_get (D := G.1) (ci := 6) (v := .int r7.2.2.2.2.2.2.2.2.2.1) (C := RX6) (T := TX6) (N := 14) hx hb hts hinX6 hown hK hP 0 rfl rfl 8 (by decide) lk0 (fun _ h9 => h9) rfl dX6_reads_18 ?_
        refine lv_isub hx hb dX6_reads_21 ?_
        exact fin _ _ _ _ _ _ hf hP hD hS dX6_reads_22
  have go : ∀ (H : Heap) (locs : List Loc), va_P G.1 vwCl (ce_X6 G.2.1 a0 S0) H → va_D A (ce_X6 G.2.1 a0 S0) → va_S A s.heap H locs → ∀ (ls : Array Slot), lv_has ls 5 [(0, .ref a0.1)] → W p l e (headSpec wsX6_reads rm_X6_reads).room s m args below meth c H locs 0 0 Q (F0 m 0 ls []) := by
    intro H locs hP hD hS ls hl
    refine lv_aload_n hx hb dX6_reads_0 rfl (lv_at hl 0 rfl) ?_
    refine lv_iconst (v := 0) hx hb dX6_reads_1 (by decide) ?_
    refine va_put (D := G.1) (ci := 6) (v := .int 0) (ty := .int) (C := RX6) (T := TX6) (N := 14) hx hb hts hinX6 tyX6 tyX6_ok nmX6 hown hK hP hD hS 0 rfl rfl 8 (by decide) lk0 (fun _ h9 => h9) rfl (by decide +kernel) rfl rfl (Nat.le_of_ble_eq_true rfl) dX6_reads_2 (fun H locs hP hD hS => ?_)
    have hP : va_P G.1 vwCl (ce_X6 G.2.1 a0 (S0.1, S0.2.1, S0.2.2.1, S0.2.2.2.1, S0.2.2.2.2.1, S0.2.2.2.2.2.1, S0.2.2.2.2.2.2.1, S0.2.2.2.2.2.2.2.1, 0, S0.2.2.2.2.2.2.2.2.2.1, S0.2.2.2.2.2.2.2.2.2.2.1, S0.2.2.2.2.2.2.2.2.2.2.2.1, S0.2.2.2.2.2.2.2.2.2.2.2.2.1, S0.2.2.2.2.2.2.2.2.2.2.2.2.2)) H := hP
    have hD : va_D A (ce_X6 G.2.1 a0 (S0.1, S0.2.1, S0.2.2.1, S0.2.2.2.1, S0.2.2.2.2.1, S0.2.2.2.2.2.1, S0.2.2.2.2.2.2.1, S0.2.2.2.2.2.2.2.1, 0, S0.2.2.2.2.2.2.2.2.2.1, S0.2.2.2.2.2.2.2.2.2.2.1, S0.2.2.2.2.2.2.2.2.2.2.2.1, S0.2.2.2.2.2.2.2.2.2.2.2.2.1, S0.2.2.2.2.2.2.2.2.2.2.2.2.2)) := hD
    refine lv_iconst (v := 0) hx hb dX6_reads_5 (by decide) ?_
    refine lv_istore_n (lv' := [(1, .int 0), (0, .ref a0.1)]) hx hb dX6_reads_6 rfl hl (by decide) rfl (fun ls hl => ?_)
    exact blk7 4096 _ _ hf _ _ hP hD hS _ (lv_sub hl [1, 0] rfl)
  exact go _ _ hP hD hS _ hl
abbrev rm_X6_land : Room := { frames := 6, cells := 0, slots := 0, locals := 135 }
set_option maxHeartbeats 4000000 in
set_option maxRecDepth 100000 in
theorem c_X6_land (l : Launch) (G : zG) (a0 : AT_X6) (sz : Nat) (S0 : ST_X6) (out : Int32 × ST_X6) (hf : f_X6_land S0 = some out) : Met l yX6_land wsX6_land rm_X6_land (PcM G (ce_X6 G.2.1 a0 S0) [.ref a0.1] sz) (QWr G (fun u => ce_X6 G.2.1 a0 u) out (va_A (ce_X6 G.2.1 a0 S0) sz)) 0 0 (va_A (ce_X6 G.2.1 a0 S0) sz) := by
  rw [f_X6_land] at hf
  refine Met.ofW (cc := cX6_land) (maxL := 2) (ret := (some .int)) (by decide) rfl ?_
  intro p e s m args below meth c s₁ B hml hv
  obtain ⟨hargs, hsz, hP, hK, hD0, hE⟩ := hv
  have hx := B.exec
  have hb := B.bytes
  have hr := B.returns
  have hts := atoms_spec (ws := wsX6_land) B.pre
  have hown : s.vm.findClass RX6 = some m.cls := findClass_of_methodNamed B.named
  have hlocks := B.notSynchronized
  subst hsz
  have hD := hD0.self (sz := s.heap.size)
  generalize hAe : va_A (ce_X6 G.2.1 a0 S0) s.heap.size = A at hD hE ⊢
  have hA : ∀ q : Nat, s.heap.size ≤ q → A q := fun q h => by rw [← hAe]; exact Or.inr h
  have hS : va_S A s.heap s.heap [] := va_S.rf
  have hl := lv_entry ([.ref a0.1]) (n := 2) (Nat.le_of_ble_eq_true rfl)
  have hent : entryFrame m args 2 = F0 m 0 ((lg_sl ([.ref a0.1]) ++ List.replicate (2 - (lg_sl ([.ref a0.1])).length) Slot.unset).toArray) [] := by rw [hargs, lg_entry_eq]
  rw [hent]
  clear hent
  generalize (lg_sl ([.ref a0.1]) ++ List.replicate (2 - (lg_sl ([.ref a0.1])).length) Slot.unset).toArray = ls at hl ⊢
  have hl : lv_has ls 2 [(0, .ref a0.1)] := hl
  have lk0 := hts (Cond.fieldLink RX6 45 "EnginesOnListModel" "taped" "I") (List.mem_of_getElem? (i := 1) rfl)
  have hinX6 : ∀ w ∈ wsX60, w ∈ wsX6_land := by decide +kernel
  have fin : ∀ (pc : Nat) (v : Int32) (u : ST_X6) (H : Heap) (locs : List Loc) (ls : Array Slot), some (v, u) = some out → va_P G.1 vwCl (ce_X6 G.2.1 a0 u) H → va_D A (ce_X6 G.2.1 a0 u) → va_S A s.heap H locs → decode cX6_land pc = .ok (.ireturn, 1) → W p l e (headSpec wsX6_land rm_X6_land).room s m args below meth c H locs 0 0 (MQ below (QWr G (fun u => ce_X6 G.2.1 a0 u) out A) args s 0 0 A) (F0 m pc ls [.int v]) := fun pc v u H locs ls ho hP hD hS hd => W.iret (v := v) hx hb hr (fun t ht hW => ⟨⟨v, u, rfl, ob_pair ho, by first | (rw [ht]; exact hP) | (dsimp only; rw [ht]; exact hP), hD⟩, hS.F ht⟩) hS.2.2 hd
  generalize MQ below (QWr G (fun u => ce_X6 G.2.1 a0 u) out A) args s 0 0 A = Q at fin ⊢
  have go : ∀ (H : Heap) (locs : List Loc), va_P G.1 vwCl (ce_X6 G.2.1 a0 S0) H → va_D A (ce_X6 G.2.1 a0 S0) → va_S A s.heap H locs → ∀ (ls : Array Slot), lv_has ls 2 [(0, .ref a0.1)] → W p l e (headSpec wsX6_land rm_X6_land).room s m args below meth c H locs 0 0 Q (F0 m 0 ls []) := by
    intro H locs hP hD hS ls hl
    refine lv_aload_n hx hb dX6_land_0 rfl (lv_at hl 0 rfl) ?_
    obtain ⟨r1, hr1, hf⟩ := ob_bind hf
    have hFc := va_free (wc := ce_X6 G.2.1 a0 S0) hD hS hA [0, 1, 2, 3, 4, 5, 6, 7, 8, 9] rfl
    refine zc_wr (cf := (fun u => ce_X6 G.2.1 a0 u)) (ws' := ce_X6 G.2.1 a0 r1.2) (va_runV (As := []) (rest := []) ⟨hx, hb, hml, hown, hts⟩ (c_X6_reads l G a0 H.size S0 _ hr1) (cwV 0 hts gX6_land_X6_reads rfl rfl rfl (by decide +kernel) ⟨Nat.le_of_ble_eq_true rfl, Nat.le_of_ble_eq_true rfl⟩) ⟨PcM.blind, va_recv hK hP (ci := 6) (q0 := 0) rfl rfl, PcM.ok hP hD hK hE hS hFc⟩ rfl rfl hl.1 rfl (lv_room (Nat.le_of_ble_eq_true rfl)) dX6_land_1 ⟨Nat.le_refl _, Nat.le_refl _⟩) hP hD hS hA [0, 1, 2, 3, 4, 5, 6, 7, 8, 9] [] [0, 1, 2, 3, 4, 5, 6, 7, 8, 9] rfl rfl (by decide) (by decide) (by decide) rfl (fun H locs hP hD hS => ?_)
    refine lv_istore_n (lv' := [(1, .int r1.1), (0, .ref a0.1)]) hx hb dX6_land_4 rfl hl (by decide) rfl (fun ls hl => ?_)
    refine lv_aload_n hx hb dX6_land_5 rfl (lv_at hl 1 rfl) ?_
    refine lv_iconst (v := 0) hx hb dX6_land_6 (by decide) ?_
    refine va_put (D := G.1) (ci := 6) (v := .int 0) (ty := .int) (C := RX6) (T := TX6) (N := 14) hx hb hts hinX6 tyX6 tyX6_ok nmX6 hown hK hP hD hS 0 rfl rfl 7 (by decide) lk0 (fun _ h9 => h9) rfl (by decide +kernel) rfl rfl (Nat.le_of_ble_eq_true rfl) dX6_land_7 (fun H locs hP hD hS => ?_)
    have hP : va_P G.1 vwCl (ce_X6 G.2.1 a0 (r1.2.1, r1.2.2.1, r1.2.2.2.1, r1.2.2.2.2.1, r1.2.2.2.2.2.1, r1.2.2.2.2.2.2.1, r1.2.2.2.2.2.2.2.1, 0, r1.2.2.2.2.2.2.2.2.2.1, r1.2.2.2.2.2.2.2.2.2.2.1, r1.2.2.2.2.2.2.2.2.2.2.2.1, r1.2.2.2.2.2.2.2.2.2.2.2.2.1, r1.2.2.2.2.2.2.2.2.2.2.2.2.2.1, r1.2.2.2.2.2.2.2.2.2.2.2.2.2.2)) H := hP
    have hD : va_D A (ce_X6 G.2.1 a0 (r1.2.1, r1.2.2.1, r1.2.2.2.1, r1.2.2.2.2.1, r1.2.2.2.2.2.1, r1.2.2.2.2.2.2.1, r1.2.2.2.2.2.2.2.1, 0, r1.2.2.2.2.2.2.2.2.2.1, r1.2.2.2.2.2.2.2.2.2.2.1, r1.2.2.2.2.2.2.2.2.2.2.2.1, r1.2.2.2.2.2.2.2.2.2.2.2.2.1, r1.2.2.2.2.2.2.2.2.2.2.2.2.2.1, r1.2.2.2.2.2.2.2.2.2.2.2.2.2.2)) := hD
    refine lv_iload_n hx hb dX6_land_10 rfl (lv_at hl 0 rfl) ?_
    exact fin _ _ _ _ _ _ hf hP hD hS dX6_land_11
  exact go _ _ hP hD hS _ hl
abbrev rm_X6_turnOf : Room := { frames := 2, cells := 0, slots := 0, locals := 46 }
set_option maxHeartbeats 4000000 in
set_option maxRecDepth 100000 in
theorem c_X6_turnOf (l : Launch) (G : zG) (a0 : AT_X6) (sz : Nat) (S0 : ST_X6) (p1 : Int32) (p2 : Int32) (out : Int32) (hf : f_X6_turnOf S0 p1 p2 = some out) : Met l yX6_turnOf wsX6_turnOf rm_X6_turnOf (PcM G (ce_X6 G.2.1 a0 S0) [.ref a0.1, .int p1, .int p2] sz) (QRo G (ce_X6 G.2.1 a0 S0) out (va_A (ce_X6 G.2.1 a0 S0) sz)) 0 0 (va_A (ce_X6 G.2.1 a0 S0) sz) := by
  rw [f_X6_turnOf] at hf
  refine Met.ofW (cc := cX6_turnOf) (maxL := 3) (ret := (some .int)) (by decide) rfl ?_
  intro p e s m args below meth c s₁ B hml hv
  obtain ⟨hargs, hsz, hP, hK, hD0, hE⟩ := hv
  have hx := B.exec
  have hb := B.bytes
  have hr := B.returns
  have hts := atoms_spec (ws := wsX6_turnOf) B.pre
  have hown : s.vm.findClass RX6 = some m.cls := findClass_of_methodNamed B.named
  have hlocks := B.notSynchronized
  subst hsz
  have hD := hD0.self (sz := s.heap.size)
  generalize hAe : va_A (ce_X6 G.2.1 a0 S0) s.heap.size = A at hD hE ⊢
  have hA : ∀ q : Nat, s.heap.size ≤ q → A q := fun q h => by rw [← hAe]; exact Or.inr h
  have hS : va_S A s.heap s.heap [] := va_S.rf
  have hl := lv_entry ([.ref a0.1, .int p1, .int p2]) (n := 3) (Nat.le_of_ble_eq_true rfl)
  have hent : entryFrame m args 3 = F0 m 0 ((lg_sl ([.ref a0.1, .int p1, .int p2]) ++ List.replicate (3 - (lg_sl ([.ref a0.1, .int p1, .int p2])).length) Slot.unset).toArray) [] := by rw [hargs, lg_entry_eq]
  rw [hent]
  clear hent
  generalize (lg_sl ([.ref a0.1, .int p1, .int p2]) ++ List.replicate (3 - (lg_sl ([.ref a0.1, .int p1, .int p2])).length) Slot.unset).toArray = ls at hl ⊢
  have hl : lv_has ls 3 [(0, .ref a0.1), (1, .int p1), (2, .int p2)] := hl
  have fin : ∀ (pc : Nat) (v : Int32) (H : Heap) (locs : List Loc) (ls : Array Slot), some v = some out → va_P G.1 vwCl (ce_X6 G.2.1 a0 S0) H → va_D A (ce_X6 G.2.1 a0 S0) → va_S A s.heap H locs → decode cX6_turnOf pc = .ok (.ireturn, 1) → W p l e (headSpec wsX6_turnOf rm_X6_turnOf).room s m args below meth c H locs 0 0 (MQ below (QRo G (ce_X6 G.2.1 a0 S0) out A) args s 0 0 A) (F0 m pc ls [.int v]) := fun pc v H locs ls ho hP hD hS hd => W.iret (v := v) hx hb hr (fun t ht hW => ⟨⟨v, (), rfl, Option.some.inj ho, by first | (rw [ht]; exact hP) | (dsimp only; rw [ht]; exact hP)⟩, hS.F ht⟩) hS.2.2 hd
  generalize MQ below (QRo G (ce_X6 G.2.1 a0 S0) out A) args s 0 0 A = Q at fin ⊢
  have go : ∀ (H : Heap) (locs : List Loc), va_P G.1 vwCl (ce_X6 G.2.1 a0 S0) H → va_D A (ce_X6 G.2.1 a0 S0) → va_S A s.heap H locs → ∀ (ls : Array Slot), lv_has ls 3 [(0, .ref a0.1), (1, .int p1), (2, .int p2)] → W p l e (headSpec wsX6_turnOf rm_X6_turnOf).room s m args below meth c H locs 0 0 Q (F0 m 0 ls []) := by
    intro H locs hP hD hS ls hl
    refine lv_aload_n hx hb dX6_turnOf_0 rfl (lv_at hl 0 rfl) ?_
    refine lv_iload_n hx hb dX6_turnOf_1 rfl (lv_at hl 1 rfl) ?_
    refine lv_iconst (v := 4) hx hb dX6_turnOf_2 (by decide) ?_
    refine lv_iload_n hx hb dX6_turnOf_3 rfl (lv_at hl 2 rfl) ?_
    refine lv_bipush (v := 7) hx hb dX6_turnOf_4 (by decide) ?_
    refine lv_irem hx hb dX6_turnOf_6 (by decide) ?_
    refine lv_iadd hx hb dX6_turnOf_7 ?_
    obtain ⟨r1, hr1, hf⟩ := ob_bind hf
    have hFc := va_free (wc := ce_X6 G.2.1 a0 S0) hD hS hA [0, 1, 2, 3, 4, 5, 6, 7, 8, 9] rfl
    refine zc_ro (va_runV (As := [.int p1, .int (4 + (p2 - p2 / 7 * 7))]) (rest := []) ⟨hx, hb, hml, hown, hts⟩ (c_X6_get l G a0 H.size S0 p1 (4 + (p2 - p2 / 7 * 7)) _ hr1) (cwV 2 hts gX6_turnOf_X6_get rfl rfl rfl (by decide +kernel) ⟨Nat.le_of_ble_eq_true rfl, Nat.le_of_ble_eq_true rfl⟩) ⟨PcM.blind, va_recv hK hP (ci := 6) (q0 := 0) rfl rfl, PcM.ok hP hD hK hE hS hFc⟩ rfl rfl hl.1 rfl (lv_room (Nat.le_of_ble_eq_true rfl)) dX6_turnOf_8 ⟨Nat.le_refl _, Nat.le_refl _⟩) hP hD hS hA [0, 1, 2, 3, 4, 5, 6, 7, 8, 9] rfl (fun H locs hP hS => ?_)
    exact fin _ _ _ _ _ hf hP hD hS dX6_turnOf_11
  exact go _ _ hP hD hS _ hl
abbrev rm_X6_isAt : Room := { frames := 3, cells := 0, slots := 0, locals := 68 }
set_option maxHeartbeats 4000000 in
set_option maxRecDepth 100000 in
theorem c_X6_isAt (l : Launch) (G : zG) (a0 : AT_X6) (sz : Nat) (S0 : ST_X6) (p1 : Int32) (p2 : Int32) (out : Int32) (hf : f_X6_isAt S0 p1 p2 = some out) : Met l yX6_isAt wsX6_isAt rm_X6_isAt (PcM G (ce_X6 G.2.1 a0 S0) [.ref a0.1, .int p1, .int p2] sz) (QRo G (ce_X6 G.2.1 a0 S0) out (va_A (ce_X6 G.2.1 a0 S0) sz)) 0 0 (va_A (ce_X6 G.2.1 a0 S0) sz) := by
  rw [f_X6_isAt] at hf
  refine Met.ofW (cc := cX6_isAt) (maxL := 5) (ret := (some .int)) (by decide) rfl ?_
  intro p e s m args below meth c s₁ B hml hv
  obtain ⟨hargs, hsz, hP, hK, hD0, hE⟩ := hv
  have hx := B.exec
  have hb := B.bytes
  have hr := B.returns
  have hts := atoms_spec (ws := wsX6_isAt) B.pre
  have hown : s.vm.findClass RX6 = some m.cls := findClass_of_methodNamed B.named
  have hlocks := B.notSynchronized
  subst hsz
  have hD := hD0.self (sz := s.heap.size)
  generalize hAe : va_A (ce_X6 G.2.1 a0 S0) s.heap.size = A at hD hE ⊢
  have hA : ∀ q : Nat, s.heap.size ≤ q → A q := fun q h => by rw [← hAe]; exact Or.inr h
  have hS : va_S A s.heap s.heap [] := va_S.rf
  have hl := lv_entry ([.ref a0.1, .int p1, .int p2]) (n := 5) (Nat.le_of_ble_eq_true rfl)
  have hent : entryFrame m args 5 = F0 m 0 ((lg_sl ([.ref a0.1, .int p1, .int p2]) ++ List.replicate (5 - (lg_sl ([.ref a0.1, .int p1, .int p2])).length) Slot.unset).toArray) [] := by rw [hargs, lg_entry_eq]
  rw [hent]
  clear hent
  generalize (lg_sl ([.ref a0.1, .int p1, .int p2]) ++ List.replicate (5 - (lg_sl ([.ref a0.1, .int p1, .int p2])).length) Slot.unset).toArray = ls at hl ⊢
  have hl : lv_has ls 5 [(0, .ref a0.1), (1, .int p1), (2, .int p2)] := hl
  have lk0 := hts (Cond.fieldLink RX6 13 "EnginesOnListModel" "s" "[I") (List.mem_of_getElem? (i := 1) rfl)
  have hinX6 : ∀ w ∈ wsX60, w ∈ wsX6_isAt := by decide +kernel
  have fin : ∀ (pc : Nat) (v : Int32) (H : Heap) (locs : List Loc) (ls : Array Slot), some v = some out → va_P G.1 vwCl (ce_X6 G.2.1 a0 S0) H → va_D A (ce_X6 G.2.1 a0 S0) → va_S A s.heap H locs → decode cX6_isAt pc = .ok (.ireturn, 1) → W p l e (headSpec wsX6_isAt rm_X6_isAt).room s m args below meth c H locs 0 0 (MQ below (QRo G (ce_X6 G.2.1 a0 S0) out A) args s 0 0 A) (F0 m pc ls [.int v]) := fun pc v H locs ls ho hP hD hS hd => W.iret (v := v) hx hb hr (fun t ht hW => ⟨⟨v, (), rfl, Option.some.inj ho, by first | (rw [ht]; exact hP) | (dsimp only; rw [ht]; exact hP)⟩, hS.F ht⟩) hS.2.2 hd
  generalize MQ below (QRo G (ce_X6 G.2.1 a0 S0) out A) args s 0 0 A = Q at fin ⊢
  have blk139 : ∀ (v2 : Int32) (w1 : Int32), f_X6_isAt_b139 S0 v2 w1 = some out → ∀ (H : Heap) (locs : List Loc), va_P G.1 vwCl (ce_X6 G.2.1 a0 S0) H → va_D A (ce_X6 G.2.1 a0 S0) → va_S A s.heap H locs → ∀ (ls : Array Slot), lv_has ls 5 [(2, .int v2)] → W p l e (headSpec wsX6_isAt rm_X6_isAt).room s m args below meth c H locs 0 0 Q (F0 m 139 ls [.int w1, .ref a0.1]) := by
    intro v2 w1 hf H locs hP hD hS ls hl
    rw [f_X6_isAt_b139] at hf
    refine lv_iload_n hx hb dX6_isAt_139 rfl (lv_at hl 0 rfl) ?_
    obtain ⟨r1, hr1, hf⟩ := ob_bind hf
    have hFc := va_free (wc := ce_X6 G.2.1 a0 S0) hD hS hA [0, 1, 2, 3, 4, 5, 6, 7, 8, 9] rfl
    refine zc_ro (va_runV (As := [.int w1, .int v2]) (rest := []) ⟨hx, hb, hml, hown, hts⟩ (c_X6_turnOf l G a0 H.size S0 w1 v2 _ hr1) (cwV 2 hts gX6_isAt_X6_turnOf rfl rfl rfl (by decide +kernel) ⟨Nat.le_of_ble_eq_true rfl, Nat.le_of_ble_eq_true rfl⟩) ⟨PcM.blind, va_recv hK hP (ci := 6) (q0 := 0) rfl rfl, PcM.ok hP hD hK hE hS hFc⟩ rfl rfl hl.1 rfl (lv_room (Nat.le_of_ble_eq_true rfl)) dX6_isAt_140 ⟨Nat.le_refl _, Nat.le_refl _⟩) hP hD hS hA [0, 1, 2, 3, 4, 5, 6, 7, 8, 9] rfl (fun H locs hP hS => ?_)
    exact fin _ _ _ _ _ hf hP hD hS dX6_isAt_143
  have go : ∀ (H : Heap) (locs : List Loc), va_P G.1 vwCl (ce_X6 G.2.1 a0 S0) H → va_D A (ce_X6 G.2.1 a0 S0) → va_S A s.heap H locs → ∀ (ls : Array Slot), lv_has ls 5 [(0, .ref a0.1), (1, .int p1), (2, .int p2)] → W p l e (headSpec wsX6_isAt rm_X6_isAt).room s m args below meth c H locs 0 0 Q (F0 m 0 ls []) := by
    intro H locs hP hD hS ls hl
    refine lv_iload_n hx hb dX6_isAt_0 rfl (lv_at hl 2 rfl) ?_
    refine lv_bipush (v := 7) hx hb dX6_isAt_1 (by decide) ?_
    refine lv_idiv hx hb dX6_isAt_3 (by decide) ?_
    refine lv_istore_n (lv' := [(3, .int (p2 / 7)), (0, .ref a0.1), (1, .int p1), (2, .int p2)]) hx hb dX6_isAt_4 rfl hl (by decide) rfl (fun ls hl => ?_)
    refine lv_aload_n hx hb dX6_isAt_5 rfl (lv_at hl 1 rfl) ?_
    refine lv_iload_n hx hb dX6_isAt_6 rfl (lv_at hl 2 rfl) ?_
    refine lv_iconst (v := 2) hx hb dX6_isAt_7 (by decide) ?_
    obtain ⟨r2, hr2, hf⟩ := ob_bind hf
    have hFc := va_free (wc := ce_X6 G.2.1 a0 S0) hD hS hA [0, 1, 2, 3, 4, 5, 6, 7, 8, 9] rfl
    refine zc_ro (va_runV (As := [.int p1, .int 2]) (rest := []) ⟨hx, hb, hml, hown, hts⟩ (c_X6_get l G a0 H.size S0 p1 2 _ hr2) (cwV 2 hts gX6_isAt_X6_get rfl rfl rfl (by decide +kernel) ⟨Nat.le_of_ble_eq_true rfl, Nat.le_of_ble_eq_true rfl⟩) ⟨PcM.blind, va_recv hK hP (ci := 6) (q0 := 0) rfl rfl, PcM.ok hP hD hK hE hS hFc⟩ rfl rfl hl.1 rfl (lv_room (Nat.le_of_ble_eq_true rfl)) dX6_isAt_8 ⟨Nat.le_refl _, Nat.le_refl _⟩) hP hD hS hA [0, 1, 2, 3, 4, 5, 6, 7, 8, 9] rfl (fun H locs hP hS => ?_)
    refine lv_istore (lv' := [(4, .int r2), (3, .int (p2 / 7)), (0, .ref a0.1), (1, .int p1), (2, .int p2)]) hx hb dX6_isAt_11 hl (by decide) rfl (fun ls hl => ?_)
    refine lv_aload_n hx hb dX6_isAt_13 rfl (lv_at hl 2 rfl) ?_
    refine lv_iload_n hx hb dX6_isAt_14 rfl (lv_at hl 3 rfl) ?_
    refine lv_iconst (v := 1) hx hb dX6_isAt_15 (by decide) ?_
    obtain ⟨r3, hr3, hf⟩ := ob_bind hf
    have hFc := va_free (wc := ce_X6 G.2.1 a0 S0) hD hS hA [0, 1, 2, 3, 4, 5, 6, 7, 8, 9] rfl
    refine zc_ro (va_runV (As := [.int p1, .int 1]) (rest := []) ⟨hx, hb, hml, hown, hts⟩ (c_X6_get l G a0 H.size S0 p1 1 _ hr3) (cwV 2 hts gX6_isAt_X6_get rfl rfl rfl (by decide +kernel) ⟨Nat.le_of_ble_eq_true rfl, Nat.le_of_ble_eq_true rfl⟩) ⟨PcM.blind, va_recv hK hP (ci := 6) (q0 := 0) rfl rfl, PcM.ok hP hD hK hE hS hFc⟩ rfl rfl hl.1 rfl (lv_room (Nat.le_of_ble_eq_true rfl)) dX6_isAt_16 ⟨Nat.le_refl _, Nat.le_refl _⟩) hP hD hS hA [0, 1, 2, 3, 4, 5, 6, 7, 8, 9] rfl (fun H locs hP hS => ?_)
    by_cases c4_0 : r3 = 1
    · replace hf := ob_pos c4_0 hf
      refine lv_tableIn (x := r3) (off := 33) (tgt := 52) hx hb dX6_isAt_19 (by rw [c4_0]; decide) (by rw [c4_0]; decide) (by rw [c4_0]; decide) (by decide) ?_
      refine lv_iload_n hx hb dX6_isAt_52 rfl (lv_at hl 4 rfl) ?_
      refine lv_bipush (v := 7) hx hb dX6_isAt_53 (by decide) ?_
      refine lv_irem hx hb dX6_isAt_55 (by decide) ?_
      refine lv_iload hx hb dX6_isAt_56 (lv_at hl 0 rfl) ?_
      refine lv_icmp_lt (tgt := 66) hx hb dX6_isAt_58 (by decide) (fun c5 => ?_) (fun c5 => ?_)
      · replace hf := ob_pos c5 hf
        refine lv_aload_n hx hb dX6_isAt_66 rfl (lv_at hl 2 rfl) ?_
        refine lv_iload_n hx hb dX6_isAt_67 rfl (lv_at hl 3 rfl) ?_
        refine lv_iload_n hx hb dX6_isAt_68 rfl (lv_at hl 4 rfl) ?_
        obtain ⟨r6, hr6, hf⟩ := ob_bind hf
        have hFc := va_free (wc := ce_X6 G.2.1 a0 S0) hD hS hA [0, 1, 2, 3, 4, 5, 6, 7, 8, 9] rfl
        refine zc_ro (va_runV (As := [.int p1, .int p2]) (rest := []) ⟨hx, hb, hml, hown, hts⟩ (c_X6_turnOf l G a0 H.size S0 p1 p2 _ hr6) (cwV 2 hts gX6_isAt_X6_turnOf rfl rfl rfl (by decide +kernel) ⟨Nat.le_of_ble_eq_true rfl, Nat.le_of_ble_eq_true rfl⟩) ⟨PcM.blind, va_recv hK hP (ci := 6) (q0 := 0) rfl rfl, PcM.ok hP hD hK hE hS hFc⟩ rfl rfl hl.1 rfl (lv_room (Nat.le_of_ble_eq_true rfl)) dX6_isAt_69 ⟨Nat.le_refl _, Nat.le_refl _⟩) hP hD hS hA [0, 1, 2, 3, 4, 5, 6, 7, 8, 9] rfl (fun H locs hP hS => ?_)
        exact fin _ _ _ _ _ hf hP hD hS dX6_isAt_72
      · replace hf := ob_neg c5 hf
        refine lv_bipush (v := 9) hx hb dX6_isAt_61 (by decide) ?_
        refine lv_goto (tgt := 72) hx hb dX6_isAt_63 (by decide) ?_
        exact fin _ _ _ _ _ hf hP hD hS dX6_isAt_72
    · replace hf := ob_neg c4_0 hf
      by_cases c4_1 : r3 = 2
      · replace hf := ob_pos c4_1 hf
        refine lv_tableIn (x := r3) (off := 54) (tgt := 73) hx hb dX6_isAt_19 (by rw [c4_1]; decide) (by rw [c4_1]; decide) (by rw [c4_1]; decide) (by decide) ?_
        refine lv_iload_n hx hb dX6_isAt_73 rfl (lv_at hl 1 rfl) ?_
        refine lv_iload hx hb dX6_isAt_74 (lv_at hl 0 rfl) ?_
        refine lv_iconst (v := 2) hx hb dX6_isAt_76 (by decide) ?_
        refine lv_iadd hx hb dX6_isAt_77 ?_
        obtain ⟨hg7, hf⟩ := ob_guard hf
        refine lv_irem hx hb dX6_isAt_78 hg7 ?_
        refine lv_if_ne (tgt := 87) hx hb dX6_isAt_79 (by decide) (fun c8 => ?_) (fun c8 => ?_)
        · replace hf := ob_neg c8 hf
          refine lv_aload_n hx hb dX6_isAt_87 rfl (lv_at hl 2 rfl) ?_
          refine lv_iload_n hx hb dX6_isAt_88 rfl (lv_at hl 3 rfl) ?_
          refine lv_iload_n hx hb dX6_isAt_89 rfl (lv_at hl 4 rfl) ?_
          obtain ⟨r9, hr9, hf⟩ := ob_bind hf
          have hFc := va_free (wc := ce_X6 G.2.1 a0 S0) hD hS hA [0, 1, 2, 3, 4, 5, 6, 7, 8, 9] rfl
          refine zc_ro (va_runV (As := [.int p1, .int p2]) (rest := []) ⟨hx, hb, hml, hown, hts⟩ (c_X6_turnOf l G a0 H.size S0 p1 p2 _ hr9) (cwV 2 hts gX6_isAt_X6_turnOf rfl rfl rfl (by decide +kernel) ⟨Nat.le_of_ble_eq_true rfl, Nat.le_of_ble_eq_true rfl⟩) ⟨PcM.blind, va_recv hK hP (ci := 6) (q0 := 0) rfl rfl, PcM.ok hP hD hK hE hS hFc⟩ rfl rfl hl.1 rfl (lv_room (Nat.le_of_ble_eq_true rfl)) dX6_isAt_90 ⟨Nat.le_refl _, Nat.le_refl _⟩) hP hD hS hA [0, 1, 2, 3, 4, 5, 6, 7, 8, 9] rfl (fun H locs hP hS => ?_)
          exact fin _ _ _ _ _ hf hP hD hS dX6_isAt_93
        · replace hf := ob_pos c8 hf
          refine lv_bipush (v := 9) hx hb dX6_isAt_82 (by decide) ?_
          refine lv_goto (tgt := 93) hx hb dX6_isAt_84 (by decide) ?_
          exact fin _ _ _ _ _ hf hP hD hS dX6_isAt_93
      · replace hf := ob_neg c4_1 hf
        by_cases c4_2 : r3 = 3
        · replace hf := ob_pos c4_2 hf
          refine lv_tableIn (x := r3) (off := 75) (tgt := 94) hx hb dX6_isAt_19 (by rw [c4_2]; decide) (by rw [c4_2]; decide) (by rw [c4_2]; decide) (by decide) ?_
          refine lv_iload hx hb dX6_isAt_94 (lv_at hl 0 rfl) ?_
          refine lv_iconst (v := 5) hx hb dX6_isAt_96 (by decide) ?_
          refine lv_irem hx hb dX6_isAt_97 (by decide) ?_
          exact fin _ _ _ _ _ hf hP hD hS dX6_isAt_98
        · replace hf := ob_neg c4_2 hf
          by_cases c4_3 : r3 = 4
          · replace hf := ob_pos c4_3 hf
            refine lv_tableIn (x := r3) (off := 80) (tgt := 99) hx hb dX6_isAt_19 (by rw [c4_3]; decide) (by rw [c4_3]; decide) (by rw [c4_3]; decide) (by decide) ?_
            refine lv_iload_n hx hb dX6_isAt_99 rfl (lv_at hl 1 rfl) ?_
            refine lv_iload hx hb dX6_isAt_100 (lv_at hl 0 rfl) ?_
            refine lv_icmp_ge (tgt := 114) hx hb dX6_isAt_102 (by decide) (fun c10 => ?_) (fun c10 => ?_)
            · replace hf := ob_pos c10 hf
              refine lv_bipush (v := 9) hx hb dX6_isAt_114 (by decide) ?_
              exact fin _ _ _ _ _ hf hP hD hS dX6_isAt_116
            · replace hf := ob_neg c10 hf
              refine lv_aload_n hx hb dX6_isAt_105 rfl (lv_at hl 2 rfl) ?_
              refine lv_iload_n hx hb dX6_isAt_106 rfl (lv_at hl 3 rfl) ?_
              refine lv_iload_n hx hb dX6_isAt_107 rfl (lv_at hl 4 rfl) ?_
              obtain ⟨r11, hr11, hf⟩ := ob_bind hf
              have hFc := va_free (wc := ce_X6 G.2.1 a0 S0) hD hS hA [0, 1, 2, 3, 4, 5, 6, 7, 8, 9] rfl
              refine zc_ro (va_runV (As := [.int p1, .int p2]) (rest := []) ⟨hx, hb, hml, hown, hts⟩ (c_X6_turnOf l G a0 H.size S0 p1 p2 _ hr11) (cwV 2 hts gX6_isAt_X6_turnOf rfl rfl rfl (by decide +kernel) ⟨Nat.le_of_ble_eq_true rfl, Nat.le_of_ble_eq_true rfl⟩) ⟨PcM.blind, va_recv hK hP (ci := 6) (q0 := 0) rfl rfl, PcM.ok hP hD hK hE hS hFc⟩ rfl rfl hl.1 rfl (lv_room (Nat.le_of_ble_eq_true rfl)) dX6_isAt_108 ⟨Nat.le_refl _, Nat.le_refl _⟩) hP hD hS hA [0, 1, 2, 3, 4, 5, 6, 7, 8, 9] rfl (fun H locs hP hS => ?_)
              refine lv_goto (tgt := 116) hx hb dX6_isAt_111 (by decide) ?_
              exact fin _ _ _ _ _ hf hP hD hS dX6_isAt_116
          · replace hf := ob_neg c4_3 hf
            by_cases c4_4 : r3 = 5
            · replace hf := ob_pos c4_4 hf
              refine lv_tableIn (x := r3) (off := 98) (tgt := 117) hx hb dX6_isAt_19 (by rw [c4_4]; decide) (by rw [c4_4]; decide) (by rw [c4_4]; decide) (by decide) ?_
              refine lv_aload_n hx hb dX6_isAt_117 rfl (lv_at hl 2 rfl) ?_
              refine lv_iload_n hx hb dX6_isAt_118 rfl (lv_at hl 1 rfl) ?_
              refine lv_iconst (v := 2) hx hb dX6_isAt_119 (by decide) ?_
              refine lv_irem hx hb dX6_isAt_120 (by decide) ?_
              refine lv_iconst (v := 1) hx hb dX6_isAt_121 (by decide) ?_
              refine lv_icmp_ne (tgt := 138) hx hb dX6_isAt_122 (by decide) (fun c12 => ?_) (fun c12 => ?_)
              · replace hf := ob_neg c12 hf
                refine lv_iload_n hx hb dX6_isAt_138 rfl (lv_at hl 3 rfl) ?_
                exact blk139 _ _ hf _ _ hP hD hS _ (lv_sub hl [4] rfl)
              · replace hf := ob_pos c12 hf
                refine lv_iload_n hx hb dX6_isAt_125 rfl (lv_at hl 3 rfl) ?_
                refine lv_iconst (v := 1) hx hb dX6_isAt_126 (by decide) ?_
                refine lv_iadd hx hb dX6_isAt_127 ?_
                refine lv_aload_n hx hb dX6_isAt_128 rfl (lv_at hl 2 rfl) ?_
                refine va_get (D := G.1) (ci := 6) (v := .ref a0.2.2.1) (C := RX6) (T := TX6) (N := 14) hx hb hts hinX6 hown hK hP 0 rfl rfl 1 (by decide) lk0 (fun _ h9 => h9) rfl dX6_isAt_129 ?_
                refine lv_iconst (v := 0) hx hb dX6_isAt_132 (by decide) ?_
                refine va_iald hx hb hK hP 2 0 rfl rfl (by decide : inB 0 130) dX6_isAt_133 ?_
                refine zl_top (y := S0.2.1 0) rfl ?_
                obtain ⟨hg13, hf⟩ := ob_guard hf
                refine lv_irem hx hb dX6_isAt_134 hg13 ?_
                refine lv_goto (tgt := 139) hx hb dX6_isAt_135 (by decide) ?_
                exact blk139 _ _ hf _ _ hP hD hS _ (lv_sub hl [4] rfl)
            · replace hf := ob_neg c4_4 hf
              have tc4_0 := lv_neT (a := 1) c4_0 rfl
              have tc4_1 := lv_neT (a := 2) c4_1 rfl
              have tc4_2 := lv_neT (a := 3) c4_2 rfl
              have tc4_3 := lv_neT (a := 4) c4_3 rfl
              have tc4_4 := lv_neT (a := 5) c4_4 rfl
              refine lv_tableOut (x := r3) (tgt := 144) hx hb dX6_isAt_19 (by omega) (by decide) ?_
              refine lv_aload_n hx hb dX6_isAt_144 rfl (lv_at hl 2 rfl) ?_
              refine lv_iload_n hx hb dX6_isAt_145 rfl (lv_at hl 3 rfl) ?_
              refine lv_iload_n hx hb dX6_isAt_146 rfl (lv_at hl 4 rfl) ?_
              obtain ⟨r14, hr14, hf⟩ := ob_bind hf
              have hFc := va_free (wc := ce_X6 G.2.1 a0 S0) hD hS hA [0, 1, 2, 3, 4, 5, 6, 7, 8, 9] rfl
              refine zc_ro (va_runV (As := [.int p1, .int p2]) (rest := []) ⟨hx, hb, hml, hown, hts⟩ (c_X6_turnOf l G a0 H.size S0 p1 p2 _ hr14) (cwV 2 hts gX6_isAt_X6_turnOf rfl rfl rfl (by decide +kernel) ⟨Nat.le_of_ble_eq_true rfl, Nat.le_of_ble_eq_true rfl⟩) ⟨PcM.blind, va_recv hK hP (ci := 6) (q0 := 0) rfl rfl, PcM.ok hP hD hK hE hS hFc⟩ rfl rfl hl.1 rfl (lv_room (Nat.le_of_ble_eq_true rfl)) dX6_isAt_147 ⟨Nat.le_refl _, Nat.le_refl _⟩) hP hD hS hA [0, 1, 2, 3, 4, 5, 6, 7, 8, 9] rfl (fun H locs hP hS => ?_)
              exact fin _ _ _ _ _ hf hP hD hS dX6_isAt_150
  exact go _ _ hP hD hS _ hl
abbrev rm_X6_passes : Room := { frames := 4, cells := 0, slots := 0, locals := 92 }
set_option maxHeartbeats 4000000 in
set_option maxRecDepth 100000 in
theorem c_X6_passes (l : Launch) (G : zG) (a0 : AT_X6) (sz : Nat) (S0 : ST_X6) (p1 : Int32) (p2 : Int32) (out : Int32) (hf : f_X6_passes S0 p1 p2 = some out) : Met l yX6_passes wsX6_passes rm_X6_passes (PcM G (ce_X6 G.2.1 a0 S0) [.ref a0.1, .int p1, .int p2] sz) (QRo G (ce_X6 G.2.1 a0 S0) out (va_A (ce_X6 G.2.1 a0 S0) sz)) 0 0 (va_A (ce_X6 G.2.1 a0 S0) sz) := by
  rw [f_X6_passes] at hf
  refine Met.ofW (cc := cX6_passes) (maxL := 5) (ret := (some .int)) (by decide) rfl ?_
  intro p e s m args below meth c s₁ B hml hv
  obtain ⟨hargs, hsz, hP, hK, hD0, hE⟩ := hv
  have hx := B.exec
  have hb := B.bytes
  have hr := B.returns
  have hts := atoms_spec (ws := wsX6_passes) B.pre
  have hown : s.vm.findClass RX6 = some m.cls := findClass_of_methodNamed B.named
  have hlocks := B.notSynchronized
  subst hsz
  have hD := hD0.self (sz := s.heap.size)
  generalize hAe : va_A (ce_X6 G.2.1 a0 S0) s.heap.size = A at hD hE ⊢
  have hA : ∀ q : Nat, s.heap.size ≤ q → A q := fun q h => by rw [← hAe]; exact Or.inr h
  have hS : va_S A s.heap s.heap [] := va_S.rf
  have hl := lv_entry ([.ref a0.1, .int p1, .int p2]) (n := 5) (Nat.le_of_ble_eq_true rfl)
  have hent : entryFrame m args 5 = F0 m 0 ((lg_sl ([.ref a0.1, .int p1, .int p2]) ++ List.replicate (5 - (lg_sl ([.ref a0.1, .int p1, .int p2])).length) Slot.unset).toArray) [] := by rw [hargs, lg_entry_eq]
  rw [hent]
  clear hent
  generalize (lg_sl ([.ref a0.1, .int p1, .int p2]) ++ List.replicate (5 - (lg_sl ([.ref a0.1, .int p1, .int p2])).length) Slot.unset).toArray = ls at hl ⊢
  have hl : lv_has ls 5 [(0, .ref a0.1), (1, .int p1), (2, .int p2)] := hl
  have lk0 := hts (Cond.fieldLink RX6 13 "EnginesOnListModel" "s" "[I") (List.mem_of_getElem? (i := 1) rfl)
  have hinX6 : ∀ w ∈ wsX60, w ∈ wsX6_passes := by decide +kernel
  have fin : ∀ (pc : Nat) (v : Int32) (H : Heap) (locs : List Loc) (ls : Array Slot), some v = some out → va_P G.1 vwCl (ce_X6 G.2.1 a0 S0) H → va_D A (ce_X6 G.2.1 a0 S0) → va_S A s.heap H locs → decode cX6_passes pc = .ok (.ireturn, 1) → W p l e (headSpec wsX6_passes rm_X6_passes).room s m args below meth c H locs 0 0 (MQ below (QRo G (ce_X6 G.2.1 a0 S0) out A) args s 0 0 A) (F0 m pc ls [.int v]) := fun pc v H locs ls ho hP hD hS hd => W.iret (v := v) hx hb hr (fun t ht hW => ⟨⟨v, (), rfl, Option.some.inj ho, by first | (rw [ht]; exact hP) | (dsimp only; rw [ht]; exact hP)⟩, hS.F ht⟩) hS.2.2 hd
  generalize MQ below (QRo G (ce_X6 G.2.1 a0 S0) out A) args s 0 0 A = Q at fin ⊢
  have blk5 : ∀ (fu5 : Nat), ∀ (v1 : Int32) (v2 : Int32) (v3 : Int32) (v4 : Int32), f_X6_passes_b5 S0 fu5 v1 v2 v3 v4 = some out → ∀ (H : Heap) (locs : List Loc), va_P G.1 vwCl (ce_X6 G.2.1 a0 S0) H → va_D A (ce_X6 G.2.1 a0 S0) → va_S A s.heap H locs → ∀ (ls : Array Slot), lv_has ls 5 [(0, .ref a0.1), (1, .int v1), (2, .int v2), (3, .int v3), (4, .int v4)] → W p l e (headSpec wsX6_passes rm_X6_passes).room s m args below meth c H locs 0 0 Q (F0 m 5 ls []) := by
    intro fu5
    induction fu5 with
    | zero => intro v1 v2 v3 v4 hf; exact ob_none hf
    | succ fu5 ih5 =>
      intro v1 v2 v3 v4 hf H locs hP hD hS ls hl
      rw [f_X6_passes_b5] at hf
      have blk34 : ∀ (v1 : Int32) (v2 : Int32) (v3 : Int32) (v4 : Int32), f_X6_passes_b34 S0 (f_X6_passes_b5 S0 fu5) v1 v2 v3 v4 = some out → ∀ (H : Heap) (locs : List Loc), va_P G.1 vwCl (ce_X6 G.2.1 a0 S0) H → va_D A (ce_X6 G.2.1 a0 S0) → va_S A s.heap H locs → ∀ (ls : Array Slot), lv_has ls 5 [(0, .ref a0.1), (1, .int v1), (2, .int v2), (3, .int v3), (4, .int v4)] → W p l e (headSpec wsX6_passes rm_X6_passes).room s m args below meth c H locs 0 0 Q (F0 m 34 ls []) := by
        intro v1 v2 v3 v4 hf H locs hP hD hS ls hl
        rw [f_X6_passes_b34] at hf
        refine lv_iinc (v := v4 + 1) (lv' := [(4, .int (v4 + 1)), (0, .ref a0.1), (1, .int v1), (2, .int v2), (3, .int v3)]) hx hb dX6_passes_34 hl (k := 4) rfl rfl (by decide) rfl (fun ls hl => ?_)
        refine lv_goto (tgt := 5) hx hb dX6_passes_37 (by decide) ?_
        exact ih5 _ _ _ _ hf _ _ hP hD hS _ (lv_sub hl [1, 2, 3, 4, 0] rfl)
      refine lv_iload hx hb dX6_passes_5 (lv_at hl 4 rfl) ?_
      refine lv_aload_n hx hb dX6_passes_7 rfl (lv_at hl 0 rfl) ?_
      refine va_get (D := G.1) (ci := 6) (v := .ref a0.2.2.1) (C := RX6) (T := TX6) (N := 14) hx hb hts hinX6 hown hK hP 0 rfl rfl 1 (by decide) lk0 (fun _ h9 => h9) rfl dX6_passes_8 ?_
      refine lv_iconst (v := 0) hx hb dX6_passes_11 (by decide) ?_
      refine va_iald hx hb hK hP 2 0 rfl rfl (by decide : inB 0 130) dX6_passes_12 ?_
      refine zl_top (y := S0.2.1 0) rfl ?_
      refine lv_icmp_ge (tgt := 40) hx hb dX6_passes_13 (by decide) (fun c1 => ?_) (fun c1 => ?_)
      · replace hf := ob_pos c1 hf
        refine lv_iload_n hx hb dX6_passes_40 rfl (lv_at hl 3 rfl) ?_
        exact fin _ _ _ _ _ hf hP hD hS dX6_passes_41
      · replace hf := ob_neg c1 hf
        refine lv_aload_n hx hb dX6_passes_16 rfl (lv_at hl 0 rfl) ?_
        refine lv_iload hx hb dX6_passes_17 (lv_at hl 4 rfl) ?_
        refine lv_iload_n hx hb dX6_passes_19 rfl (lv_at hl 2 rfl) ?_
        obtain ⟨r2, hr2, hf⟩ := ob_bind hf
        have hFc := va_free (wc := ce_X6 G.2.1 a0 S0) hD hS hA [0, 1, 2, 3, 4, 5, 6, 7, 8, 9] rfl
        refine zc_ro (va_runV (As := [.int v4, .int v2]) (rest := []) ⟨hx, hb, hml, hown, hts⟩ (c_X6_isAt l G a0 H.size S0 v4 v2 _ hr2) (cwV 2 hts gX6_passes_X6_isAt rfl rfl rfl (by decide +kernel) ⟨Nat.le_of_ble_eq_true rfl, Nat.le_of_ble_eq_true rfl⟩) ⟨PcM.blind, va_recv hK hP (ci := 6) (q0 := 0) rfl rfl, PcM.ok hP hD hK hE hS hFc⟩ rfl rfl hl.1 rfl (lv_room (Nat.le_of_ble_eq_true rfl)) dX6_passes_20 ⟨Nat.le_refl _, Nat.le_refl _⟩) hP hD hS hA [0, 1, 2, 3, 4, 5, 6, 7, 8, 9] rfl (fun H locs hP hS => ?_)
        refine lv_iload_n hx hb dX6_passes_23 rfl (lv_at hl 1 rfl) ?_
        refine lv_icmp_ne (tgt := 34) hx hb dX6_passes_24 (by decide) (fun c3 => ?_) (fun c3 => ?_)
        · replace hf := ob_neg c3 hf
          exact blk34 _ _ _ _ hf _ _ hP hD hS _ (lv_sub hl [0, 1, 2, 3, 4] rfl)
        · replace hf := ob_pos c3 hf
          refine lv_iload_n hx hb dX6_passes_27 rfl (lv_at hl 3 rfl) ?_
          refine lv_iconst (v := 1) hx hb dX6_passes_28 (by decide) ?_
          refine lv_iload hx hb dX6_passes_29 (lv_at hl 4 rfl) ?_
          refine lv_ishl hx hb dX6_passes_31 ?_
          refine lv_ior hx hb dX6_passes_32 ?_
          refine lv_istore_n (lv' := [(3, .int (v3 ||| (1 <<< (v4 &&& 31)))), (0, .ref a0.1), (1, .int v1), (2, .int v2), (4, .int v4)]) hx hb dX6_passes_33 rfl hl (by decide) rfl (fun ls hl => ?_)
          exact blk34 _ _ _ _ hf _ _ hP hD hS _ (lv_sub hl [1, 2, 3, 0, 4] rfl)
  have go : ∀ (H : Heap) (locs : List Loc), va_P G.1 vwCl (ce_X6 G.2.1 a0 S0) H → va_D A (ce_X6 G.2.1 a0 S0) → va_S A s.heap H locs → ∀ (ls : Array Slot), lv_has ls 5 [(0, .ref a0.1), (1, .int p1), (2, .int p2)] → W p l e (headSpec wsX6_passes rm_X6_passes).room s m args below meth c H locs 0 0 Q (F0 m 0 ls []) := by
    intro H locs hP hD hS ls hl
    refine lv_iconst (v := 0) hx hb dX6_passes_0 (by decide) ?_
    refine lv_istore_n (lv' := [(3, .int 0), (0, .ref a0.1), (1, .int p1), (2, .int p2)]) hx hb dX6_passes_1 rfl hl (by decide) rfl (fun ls hl => ?_)
    refine lv_iconst (v := 0) hx hb dX6_passes_2 (by decide) ?_
    refine lv_istore (lv' := [(4, .int 0), (3, .int 0), (0, .ref a0.1), (1, .int p1), (2, .int p2)]) hx hb dX6_passes_3 hl (by decide) rfl (fun ls hl => ?_)
    exact blk5 4096 _ _ _ _ hf _ _ hP hD hS _ (lv_sub hl [2, 3, 4, 1, 0] rfl)
  exact go _ _ hP hD hS _ hl
abbrev rm_X6_groupOf : Room := { frames := 2, cells := 0, slots := 0, locals := 46 }
set_option maxHeartbeats 4000000 in
set_option maxRecDepth 100000 in
theorem c_X6_groupOf (l : Launch) (G : zG) (a0 : AT_X6) (sz : Nat) (S0 : ST_X6) (p1 : Int32) (out : Int32) (hf : f_X6_groupOf S0 p1 = some out) : Met l yX6_groupOf wsX6_groupOf rm_X6_groupOf (PcM G (ce_X6 G.2.1 a0 S0) [.ref a0.1, .int p1] sz) (QRo G (ce_X6 G.2.1 a0 S0) out (va_A (ce_X6 G.2.1 a0 S0) sz)) 0 0 (va_A (ce_X6 G.2.1 a0 S0) sz) := by
  rw [f_X6_groupOf] at hf
  refine Met.ofW (cc := cX6_groupOf) (maxL := 2) (ret := (some .int)) (by decide) rfl ?_
  intro p e s m args below meth c s₁ B hml hv
  obtain ⟨hargs, hsz, hP, hK, hD0, hE⟩ := hv
  have hx := B.exec
  have hb := B.bytes
  have hr := B.returns
  have hts := atoms_spec (ws := wsX6_groupOf) B.pre
  have hown : s.vm.findClass RX6 = some m.cls := findClass_of_methodNamed B.named
  have hlocks := B.notSynchronized
  subst hsz
  have hD := hD0.self (sz := s.heap.size)
  generalize hAe : va_A (ce_X6 G.2.1 a0 S0) s.heap.size = A at hD hE ⊢
  have hA : ∀ q : Nat, s.heap.size ≤ q → A q := fun q h => by rw [← hAe]; exact Or.inr h
  have hS : va_S A s.heap s.heap [] := va_S.rf
  have hl := lv_entry ([.ref a0.1, .int p1]) (n := 2) (Nat.le_of_ble_eq_true rfl)
  have hent : entryFrame m args 2 = F0 m 0 ((lg_sl ([.ref a0.1, .int p1]) ++ List.replicate (2 - (lg_sl ([.ref a0.1, .int p1])).length) Slot.unset).toArray) [] := by rw [hargs, lg_entry_eq]
  rw [hent]
  clear hent
  generalize (lg_sl ([.ref a0.1, .int p1]) ++ List.replicate (2 - (lg_sl ([.ref a0.1, .int p1])).length) Slot.unset).toArray = ls at hl ⊢
  have hl : lv_has ls 2 [(0, .ref a0.1), (1, .int p1)] := hl
  have fin : ∀ (pc : Nat) (v : Int32) (H : Heap) (locs : List Loc) (ls : Array Slot), some v = some out → va_P G.1 vwCl (ce_X6 G.2.1 a0 S0) H → va_D A (ce_X6 G.2.1 a0 S0) → va_S A s.heap H locs → decode cX6_groupOf pc = .ok (.ireturn, 1) → W p l e (headSpec wsX6_groupOf rm_X6_groupOf).room s m args below meth c H locs 0 0 (MQ below (QRo G (ce_X6 G.2.1 a0 S0) out A) args s 0 0 A) (F0 m pc ls [.int v]) := fun pc v H locs ls ho hP hD hS hd => W.iret (v := v) hx hb hr (fun t ht hW => ⟨⟨v, (), rfl, Option.some.inj ho, by first | (rw [ht]; exact hP) | (dsimp only; rw [ht]; exact hP)⟩, hS.F ht⟩) hS.2.2 hd
  generalize MQ below (QRo G (ce_X6 G.2.1 a0 S0) out A) args s 0 0 A = Q at fin ⊢
  have blk24 : ∀ (w0 : Int32) (w1 : Int32), f_X6_groupOf_b24 S0 w0 w1 = some out → ∀ (H : Heap) (locs : List Loc), va_P G.1 vwCl (ce_X6 G.2.1 a0 S0) H → va_D A (ce_X6 G.2.1 a0 S0) → va_S A s.heap H locs → ∀ (ls : Array Slot), lv_has ls 2 [] → W p l e (headSpec wsX6_groupOf rm_X6_groupOf).room s m args below meth c H locs 0 0 Q (F0 m 24 ls [.int w1, .int w0]) := by
    intro w0 w1 hf H locs hP hD hS ls hl
    rw [f_X6_groupOf_b24] at hf
    refine lv_ior hx hb dX6_groupOf_24 ?_
    exact fin _ _ _ _ _ hf hP hD hS dX6_groupOf_25
  have go : ∀ (H : Heap) (locs : List Loc), va_P G.1 vwCl (ce_X6 G.2.1 a0 S0) H → va_D A (ce_X6 G.2.1 a0 S0) → va_S A s.heap H locs → ∀ (ls : Array Slot), lv_has ls 2 [(0, .ref a0.1), (1, .int p1)] → W p l e (headSpec wsX6_groupOf rm_X6_groupOf).room s m args below meth c H locs 0 0 Q (F0 m 0 ls []) := by
    intro H locs hP hD hS ls hl
    refine lv_iconst (v := 1) hx hb dX6_groupOf_0 (by decide) ?_
    refine lv_iload_n hx hb dX6_groupOf_1 rfl (lv_at hl 1 rfl) ?_
    refine lv_ishl hx hb dX6_groupOf_2 ?_
    refine lv_aload_n hx hb dX6_groupOf_3 rfl (lv_at hl 0 rfl) ?_
    refine lv_iload_n hx hb dX6_groupOf_4 rfl (lv_at hl 1 rfl) ?_
    refine lv_iconst (v := 3) hx hb dX6_groupOf_5 (by decide) ?_
    obtain ⟨r1, hr1, hf⟩ := ob_bind hf
    have hFc := va_free (wc := ce_X6 G.2.1 a0 S0) hD hS hA [0, 1, 2, 3, 4, 5, 6, 7, 8, 9] rfl
    refine zc_ro (va_runV (As := [.int p1, .int 3]) (rest := [.int (1 <<< (p1 &&& 31))]) ⟨hx, hb, hml, hown, hts⟩ (c_X6_get l G a0 H.size S0 p1 3 _ hr1) (cwV 2 hts gX6_groupOf_X6_get rfl rfl rfl (by decide +kernel) ⟨Nat.le_of_ble_eq_true rfl, Nat.le_of_ble_eq_true rfl⟩) ⟨PcM.blind, va_recv hK hP (ci := 6) (q0 := 0) rfl rfl, PcM.ok hP hD hK hE hS hFc⟩ rfl rfl hl.1 rfl (lv_room (Nat.le_of_ble_eq_true rfl)) dX6_groupOf_6 ⟨Nat.le_refl _, Nat.le_refl _⟩) hP hD hS hA [0, 1, 2, 3, 4, 5, 6, 7, 8, 9] rfl (fun H locs hP hS => ?_)
    refine lv_if_ge (tgt := 16) hx hb dX6_groupOf_9 (by decide) (fun c2 => ?_) (fun c2 => ?_)
    · replace hf := ob_pos c2 hf
      refine lv_iconst (v := 1) hx hb dX6_groupOf_16 (by decide) ?_
      refine lv_aload_n hx hb dX6_groupOf_17 rfl (lv_at hl 0 rfl) ?_
      refine lv_iload_n hx hb dX6_groupOf_18 rfl (lv_at hl 1 rfl) ?_
      refine lv_iconst (v := 3) hx hb dX6_groupOf_19 (by decide) ?_
      obtain ⟨r3, hr3, hf⟩ := ob_bind hf
      have hFc := va_free (wc := ce_X6 G.2.1 a0 S0) hD hS hA [0, 1, 2, 3, 4, 5, 6, 7, 8, 9] rfl
      refine zc_ro (va_runV (As := [.int p1, .int 3]) (rest := [.int 1, .int (1 <<< (p1 &&& 31))]) ⟨hx, hb, hml, hown, hts⟩ (c_X6_get l G a0 H.size S0 p1 3 _ hr3) (cwV 2 hts gX6_groupOf_X6_get rfl rfl rfl (by decide +kernel) ⟨Nat.le_of_ble_eq_true rfl, Nat.le_of_ble_eq_true rfl⟩) ⟨PcM.blind, va_recv hK hP (ci := 6) (q0 := 0) rfl rfl, PcM.ok hP hD hK hE hS hFc⟩ rfl rfl hl.1 rfl (lv_room (Nat.le_of_ble_eq_true rfl)) dX6_groupOf_20 ⟨Nat.le_refl _, Nat.le_refl _⟩) hP hD hS hA [0, 1, 2, 3, 4, 5, 6, 7, 8, 9] rfl (fun H locs hP hS => ?_)
      refine lv_ishl hx hb dX6_groupOf_23 ?_
      exact blk24 _ _ hf _ _ hP hD hS _ (lv_sub hl [] rfl)
    · replace hf := ob_neg c2 hf
      refine lv_iconst (v := 0) hx hb dX6_groupOf_12 (by decide) ?_
      refine lv_goto (tgt := 24) hx hb dX6_groupOf_13 (by decide) ?_
      exact blk24 _ _ hf _ _ hP hD hS _ (lv_sub hl [] rfl)
  exact go _ _ hP hD hS _ hl
abbrev rm_X6_isHad : Room := { frames := 3, cells := 0, slots := 0, locals := 67 }
set_option maxHeartbeats 4000000 in
set_option maxRecDepth 100000 in
theorem c_X6_isHad (l : Launch) (G : zG) (a0 : AT_X6) (sz : Nat) (S0 : ST_X6) (p1 : Int32) (out : Int32) (hf : f_X6_isHad S0 p1 = some out) : Met l yX6_isHad wsX6_isHad rm_X6_isHad (PcM G (ce_X6 G.2.1 a0 S0) [.ref a0.1, .int p1] sz) (QRo G (ce_X6 G.2.1 a0 S0) out (va_A (ce_X6 G.2.1 a0 S0) sz)) 0 0 (va_A (ce_X6 G.2.1 a0 S0) sz) := by
  rw [f_X6_isHad] at hf
  refine Met.ofW (cc := cX6_isHad) (maxL := 2) (ret := (some .boolean)) (by decide) rfl ?_
  intro p e s m args below meth c s₁ B hml hv
  obtain ⟨hargs, hsz, hP, hK, hD0, hE⟩ := hv
  have hx := B.exec
  have hb := B.bytes
  have hr := B.returns
  have hts := atoms_spec (ws := wsX6_isHad) B.pre
  have hown : s.vm.findClass RX6 = some m.cls := findClass_of_methodNamed B.named
  have hlocks := B.notSynchronized
  subst hsz
  have hD := hD0.self (sz := s.heap.size)
  generalize hAe : va_A (ce_X6 G.2.1 a0 S0) s.heap.size = A at hD hE ⊢
  have hA : ∀ q : Nat, s.heap.size ≤ q → A q := fun q h => by rw [← hAe]; exact Or.inr h
  have hS : va_S A s.heap s.heap [] := va_S.rf
  have hl := lv_entry ([.ref a0.1, .int p1]) (n := 2) (Nat.le_of_ble_eq_true rfl)
  have hent : entryFrame m args 2 = F0 m 0 ((lg_sl ([.ref a0.1, .int p1]) ++ List.replicate (2 - (lg_sl ([.ref a0.1, .int p1])).length) Slot.unset).toArray) [] := by rw [hargs, lg_entry_eq]
  rw [hent]
  clear hent
  generalize (lg_sl ([.ref a0.1, .int p1]) ++ List.replicate (2 - (lg_sl ([.ref a0.1, .int p1])).length) Slot.unset).toArray = ls at hl ⊢
  have hl : lv_has ls 2 [(0, .ref a0.1), (1, .int p1)] := hl
  have lk0 := hts (Cond.fieldLink RX6 13 "EnginesOnListModel" "s" "[I") (List.mem_of_getElem? (i := 1) rfl)
  have hinX6 : ∀ w ∈ wsX60, w ∈ wsX6_isHad := by decide +kernel
  have fin : ∀ (pc : Nat) (v : Int32) (H : Heap) (locs : List Loc) (ls : Array Slot), some v = some out → narrow .boolean (.int v) = .int v → va_P G.1 vwCl (ce_X6 G.2.1 a0 S0) H → va_D A (ce_X6 G.2.1 a0 S0) → va_S A s.heap H locs → decode cX6_isHad pc = .ok (.ireturn, 1) → W p l e (headSpec wsX6_isHad rm_X6_isHad).room s m args below meth c H locs 0 0 (MQ below (QRo G (ce_X6 G.2.1 a0 S0) out A) args s 0 0 A) (F0 m pc ls [.int v]) := fun pc v H locs ls ho hn hP hD hS hd => W.zret (v := v) hx hb hr hn (fun t ht hW => ⟨⟨v, (), rfl, Option.some.inj ho, by first | (rw [ht]; exact hP) | (dsimp only; rw [ht]; exact hP)⟩, hS.F ht⟩) hS.2.2 hd
  generalize MQ below (QRo G (ce_X6 G.2.1 a0 S0) out A) args s 0 0 A = Q at fin ⊢
  have go : ∀ (H : Heap) (locs : List Loc), va_P G.1 vwCl (ce_X6 G.2.1 a0 S0) H → va_D A (ce_X6 G.2.1 a0 S0) → va_S A s.heap H locs → ∀ (ls : Array Slot), lv_has ls 2 [(0, .ref a0.1), (1, .int p1)] → W p l e (headSpec wsX6_isHad rm_X6_isHad).room s m args below meth c H locs 0 0 Q (F0 m 0 ls []) := by
    intro H locs hP hD hS ls hl
    refine lv_aload_n hx hb dX6_isHad_0 rfl (lv_at hl 0 rfl) ?_
    refine lv_iload_n hx hb dX6_isHad_1 rfl (lv_at hl 1 rfl) ?_
    obtain ⟨r1, hr1, hf⟩ := ob_bind hf
    have hFc := va_free (wc := ce_X6 G.2.1 a0 S0) hD hS hA [0, 1, 2, 3, 4, 5, 6, 7, 8, 9] rfl
    refine zc_ro (va_runV (As := [.int p1]) (rest := []) ⟨hx, hb, hml, hown, hts⟩ (c_X6_groupOf l G a0 H.size S0 p1 _ hr1) (cwV 1 hts gX6_isHad_X6_groupOf rfl rfl rfl (by decide +kernel) ⟨Nat.le_of_ble_eq_true rfl, Nat.le_of_ble_eq_true rfl⟩) ⟨PcM.blind, va_recv hK hP (ci := 6) (q0 := 0) rfl rfl, PcM.ok hP hD hK hE hS hFc⟩ rfl rfl hl.1 rfl (lv_room (Nat.le_of_ble_eq_true rfl)) dX6_isHad_2 ⟨Nat.le_refl _, Nat.le_refl _⟩) hP hD hS hA [0, 1, 2, 3, 4, 5, 6, 7, 8, 9] rfl (fun H locs hP hS => ?_)
    refine lv_aload_n hx hb dX6_isHad_5 rfl (lv_at hl 0 rfl) ?_
    refine va_get (D := G.1) (ci := 6) (v := .ref a0.2.2.1) (C := RX6) (T := TX6) (N := 14) hx hb hts hinX6 hown hK hP 0 rfl rfl 1 (by decide) lk0 (fun _ h9 => h9) rfl dX6_isHad_6 ?_
    refine lv_iconst (v := 2) hx hb dX6_isHad_9 (by decide) ?_
    refine va_iald hx hb hK hP 2 0 rfl rfl (by decide : inB 2 130) dX6_isHad_10 ?_
    refine zl_top (y := S0.2.1 2) rfl ?_
    refine lv_iand hx hb dX6_isHad_11 ?_
    refine lv_if_eq (tgt := 19) hx hb dX6_isHad_12 (by decide) (fun c2 => ?_) (fun c2 => ?_)
    · replace hf := ob_pos c2 hf
      refine lv_iconst (v := 0) hx hb dX6_isHad_19 (by decide) ?_
      exact fin _ _ _ _ _ hf rfl hP hD hS dX6_isHad_20
    · replace hf := ob_neg c2 hf
      refine lv_iconst (v := 1) hx hb dX6_isHad_15 (by decide) ?_
      refine lv_goto (tgt := 20) hx hb dX6_isHad_16 (by decide) ?_
      exact fin _ _ _ _ _ hf rfl hP hD hS dX6_isHad_20
  exact go _ _ hP hD hS _ hl
abbrev rm_X6_worth : Room := { frames := 4, cells := 0, slots := 0, locals := 88 }
set_option maxHeartbeats 4000000 in
set_option maxRecDepth 100000 in
theorem c_X6_worth (l : Launch) (G : zG) (a0 : AT_X6) (sz : Nat) (S0 : ST_X6) (p1 : Int32) (p2 : Int32) (out : Int32) (hf : f_X6_worth S0 p1 p2 = some out) : Met l yX6_worth wsX6_worth rm_X6_worth (PcM G (ce_X6 G.2.1 a0 S0) [.ref a0.1, .int p1, .int p2] sz) (QRo G (ce_X6 G.2.1 a0 S0) out (va_A (ce_X6 G.2.1 a0 S0) sz)) 0 0 (va_A (ce_X6 G.2.1 a0 S0) sz) := by
  rw [f_X6_worth] at hf
  refine Met.ofW (cc := cX6_worth) (maxL := 6) (ret := (some .int)) (by decide) rfl ?_
  intro p e s m args below meth c s₁ B hml hv
  obtain ⟨hargs, hsz, hP, hK, hD0, hE⟩ := hv
  have hx := B.exec
  have hb := B.bytes
  have hr := B.returns
  have hts := atoms_spec (ws := wsX6_worth) B.pre
  have hown : s.vm.findClass RX6 = some m.cls := findClass_of_methodNamed B.named
  have hlocks := B.notSynchronized
  subst hsz
  have hD := hD0.self (sz := s.heap.size)
  generalize hAe : va_A (ce_X6 G.2.1 a0 S0) s.heap.size = A at hD hE ⊢
  have hA : ∀ q : Nat, s.heap.size ≤ q → A q := fun q h => by rw [← hAe]; exact Or.inr h
  have hS : va_S A s.heap s.heap [] := va_S.rf
  have hl := lv_entry ([.ref a0.1, .int p1, .int p2]) (n := 6) (Nat.le_of_ble_eq_true rfl)
  have hent : entryFrame m args 6 = F0 m 0 ((lg_sl ([.ref a0.1, .int p1, .int p2]) ++ List.replicate (6 - (lg_sl ([.ref a0.1, .int p1, .int p2])).length) Slot.unset).toArray) [] := by rw [hargs, lg_entry_eq]
  rw [hent]
  clear hent
  generalize (lg_sl ([.ref a0.1, .int p1, .int p2]) ++ List.replicate (6 - (lg_sl ([.ref a0.1, .int p1, .int p2])).length) Slot.unset).toArray = ls at hl ⊢
  have hl : lv_has ls 6 [(0, .ref a0.1), (1, .int p1), (2, .int p2)] := hl
  have lk0 := hts (Cond.fieldLink RX6 13 "EnginesOnListModel" "s" "[I") (List.mem_of_getElem? (i := 1) rfl)
  have hinX6 : ∀ w ∈ wsX60, w ∈ wsX6_worth := by decide +kernel
  have fin : ∀ (pc : Nat) (v : Int32) (H : Heap) (locs : List Loc) (ls : Array Slot), some v = some out → va_P G.1 vwCl (ce_X6 G.2.1 a0 S0) H → va_D A (ce_X6 G.2.1 a0 S0) → va_S A s.heap H locs → decode cX6_worth pc = .ok (.ireturn, 1) → W p l e (headSpec wsX6_worth rm_X6_worth).room s m args below meth c H locs 0 0 (MQ below (QRo G (ce_X6 G.2.1 a0 S0) out A) args s 0 0 A) (F0 m pc ls [.int v]) := fun pc v H locs ls ho hP hD hS hd => W.iret (v := v) hx hb hr (fun t ht hW => ⟨⟨v, (), rfl, Option.some.inj ho, by first | (rw [ht]; exact hP) | (dsimp only; rw [ht]; exact hP)⟩, hS.F ht⟩) hS.2.2 hd
  generalize MQ below (QRo G (ce_X6 G.2.1 a0 S0) out A) args s 0 0 A = Q at fin ⊢
  have blk5 : ∀ (fu5 : Nat), ∀ (v1 : Int32) (v2 : Int32) (v3 : Int32) (v4 : Int32), f_X6_worth_b5 S0 fu5 v1 v2 v3 v4 = some out → ∀ (H : Heap) (locs : List Loc), va_P G.1 vwCl (ce_X6 G.2.1 a0 S0) H → va_D A (ce_X6 G.2.1 a0 S0) → va_S A s.heap H locs → ∀ (ls : Array Slot), lv_has ls 6 [(0, .ref a0.1), (1, .int v1), (2, .int v2), (3, .int v3), (4, .int v4)] → W p l e (headSpec wsX6_worth rm_X6_worth).room s m args below meth c H locs 0 0 Q (F0 m 5 ls []) := by
    intro fu5
    induction fu5 with
    | zero => intro v1 v2 v3 v4 hf; exact ob_none hf
    | succ fu5 ih5 =>
      intro v1 v2 v3 v4 hf H locs hP hD hS ls hl
      rw [f_X6_worth_b5] at hf
      have blk91 : ∀ (v1 : Int32) (v2 : Int32) (v3 : Int32) (v4 : Int32), f_X6_worth_b91 S0 (f_X6_worth_b5 S0 fu5) v1 v2 v3 v4 = some out → ∀ (H : Heap) (locs : List Loc), va_P G.1 vwCl (ce_X6 G.2.1 a0 S0) H → va_D A (ce_X6 G.2.1 a0 S0) → va_S A s.heap H locs → ∀ (ls : Array Slot), lv_has ls 6 [(0, .ref a0.1), (1, .int v1), (2, .int v2), (3, .int v3), (4, .int v4)] → W p l e (headSpec wsX6_worth rm_X6_worth).room s m args below meth c H locs 0 0 Q (F0 m 91 ls []) := by
        intro v1 v2 v3 v4 hf H locs hP hD hS ls hl
        rw [f_X6_worth_b91] at hf
        refine lv_iinc (v := v4 + 1) (lv' := [(4, .int (v4 + 1)), (0, .ref a0.1), (1, .int v1), (2, .int v2), (3, .int v3)]) hx hb dX6_worth_91 hl (k := 4) rfl rfl (by decide) rfl (fun ls hl => ?_)
        refine lv_goto (tgt := 5) hx hb dX6_worth_94 (by decide) ?_
        exact ih5 _ _ _ _ hf _ _ hP hD hS _ (lv_sub hl [1, 2, 3, 4, 0] rfl)
      have blk89 : ∀ (v1 : Int32) (v2 : Int32) (v4 : Int32) (w0 : Int32) (w1 : Int32), f_X6_worth_b89 S0 (f_X6_worth_b5 S0 fu5) v1 v2 v4 w0 w1 = some out → ∀ (H : Heap) (locs : List Loc), va_P G.1 vwCl (ce_X6 G.2.1 a0 S0) H → va_D A (ce_X6 G.2.1 a0 S0) → va_S A s.heap H locs → ∀ (ls : Array Slot), lv_has ls 6 [(0, .ref a0.1), (1, .int v1), (2, .int v2), (4, .int v4)] → W p l e (headSpec wsX6_worth rm_X6_worth).room s m args below meth c H locs 0 0 Q (F0 m 89 ls [.int w1, .int w0]) := by
        intro v1 v2 v4 w0 w1 hf H locs hP hD hS ls hl
        rw [f_X6_worth_b89] at hf
        refine lv_iadd hx hb dX6_worth_89 ?_
        refine lv_istore_n (lv' := [(3, .int (w0 + w1)), (0, .ref a0.1), (1, .int v1), (2, .int v2), (4, .int v4)]) hx hb dX6_worth_90 rfl hl (by decide) rfl (fun ls hl => ?_)
        exact blk91 _ _ _ _ hf _ _ hP hD hS _ (lv_sub hl [1, 2, 3, 0, 4] rfl)
      have blk43 : ∀ (v1 : Int32) (v2 : Int32) (v3 : Int32) (v4 : Int32) (w0 : Int32), f_X6_worth_b43 S0 (f_X6_worth_b5 S0 fu5) v1 v2 v3 v4 w0 = some out → ∀ (H : Heap) (locs : List Loc), va_P G.1 vwCl (ce_X6 G.2.1 a0 S0) H → va_D A (ce_X6 G.2.1 a0 S0) → va_S A s.heap H locs → ∀ (ls : Array Slot), lv_has ls 6 [(0, .ref a0.1), (1, .int v1), (2, .int v2), (3, .int v3), (4, .int v4)] → W p l e (headSpec wsX6_worth rm_X6_worth).room s m args below meth c H locs 0 0 Q (F0 m 43 ls [.int w0]) := by
        intro v1 v2 v3 v4 w0 hf H locs hP hD hS ls hl
        rw [f_X6_worth_b43] at hf
        refine lv_istore (lv' := [(5, .int w0), (0, .ref a0.1), (1, .int v1), (2, .int v2), (3, .int v3), (4, .int v4)]) hx hb dX6_worth_43 hl (by decide) rfl (fun ls hl => ?_)
        refine lv_iload hx hb dX6_worth_45 (lv_at hl 0 rfl) ?_
        refine lv_if_eq (tgt := 91) hx hb dX6_worth_47 (by decide) (fun c1 => ?_) (fun c1 => ?_)
        · replace hf := ob_pos c1 hf
          exact blk91 _ _ _ _ hf _ _ hP hD hS _ (lv_sub hl [1, 2, 3, 4, 5] rfl)
        · replace hf := ob_neg c1 hf
          refine lv_aload_n hx hb dX6_worth_50 rfl (lv_at hl 1 rfl) ?_
          refine lv_iload hx hb dX6_worth_51 (lv_at hl 5 rfl) ?_
          obtain ⟨r2, hr2, hf⟩ := ob_bind hf
          have hFc := va_free (wc := ce_X6 G.2.1 a0 S0) hD hS hA [0, 1, 2, 3, 4, 5, 6, 7, 8, 9] rfl
          refine zc_ro (va_runV (As := [.int v4]) (rest := []) ⟨hx, hb, hml, hown, hts⟩ (c_X6_groupOf l G a0 H.size S0 v4 _ hr2) (cwV 1 hts gX6_worth_X6_groupOf rfl rfl rfl (by decide +kernel) ⟨Nat.le_of_ble_eq_true rfl, Nat.le_of_ble_eq_true rfl⟩) ⟨PcM.blind, va_recv hK hP (ci := 6) (q0 := 0) rfl rfl, PcM.ok hP hD hK hE hS hFc⟩ rfl rfl hl.1 rfl (lv_room (Nat.le_of_ble_eq_true rfl)) dX6_worth_53 ⟨Nat.le_refl _, Nat.le_refl _⟩) hP hD hS hA [0, 1, 2, 3, 4, 5, 6, 7, 8, 9] rfl (fun H locs hP hS => ?_)
          refine lv_iload_n hx hb dX6_worth_56 rfl (lv_at hl 2 rfl) ?_
          refine lv_iand hx hb dX6_worth_57 ?_
          refine lv_if_eq (tgt := 91) hx hb dX6_worth_58 (by decide) (fun c3 => ?_) (fun c3 => ?_)
          · replace hf := ob_pos c3 hf
            exact blk91 _ _ _ _ hf _ _ hP hD hS _ (lv_sub hl [1, 2, 3, 4, 5] rfl)
          · replace hf := ob_neg c3 hf
            refine lv_aload_n hx hb dX6_worth_61 rfl (lv_at hl 1 rfl) ?_
            refine lv_iload hx hb dX6_worth_62 (lv_at hl 5 rfl) ?_
            obtain ⟨r4, hr4, hf⟩ := ob_bind hf
            have hFc := va_free (wc := ce_X6 G.2.1 a0 S0) hD hS hA [0, 1, 2, 3, 4, 5, 6, 7, 8, 9] rfl
            refine zc_ro (va_runV (As := [.int v4]) (rest := []) ⟨hx, hb, hml, hown, hts⟩ (c_X6_isHad l G a0 H.size S0 v4 _ hr4) (cwV 1 hts gX6_worth_X6_isHad rfl rfl rfl (by decide +kernel) ⟨Nat.le_of_ble_eq_true rfl, Nat.le_of_ble_eq_true rfl⟩) ⟨PcM.blind, va_recv hK hP (ci := 6) (q0 := 0) rfl rfl, PcM.ok hP hD hK hE hS hFc⟩ rfl rfl hl.1 rfl (lv_room (Nat.le_of_ble_eq_true rfl)) dX6_worth_64 ⟨Nat.le_refl _, Nat.le_refl _⟩) hP hD hS hA [0, 1, 2, 3, 4, 5, 6, 7, 8, 9] rfl (fun H locs hP hS => ?_)
            refine lv_iload_n hx hb dX6_worth_67 rfl (lv_at hl 3 rfl) ?_
            refine lv_icmp_ne (tgt := 91) hx hb dX6_worth_68 (by decide) (fun c5 => ?_) (fun c5 => ?_)
            · replace hf := ob_neg c5 hf
              exact blk91 _ _ _ _ hf _ _ hP hD hS _ (lv_sub hl [1, 2, 3, 4, 5] rfl)
            · replace hf := ob_pos c5 hf
              refine lv_iload_n hx hb dX6_worth_71 rfl (lv_at hl 4 rfl) ?_
              refine lv_aload_n hx hb dX6_worth_72 rfl (lv_at hl 1 rfl) ?_
              refine lv_iload hx hb dX6_worth_73 (lv_at hl 5 rfl) ?_
              refine lv_iconst (v := 1) hx hb dX6_worth_75 (by decide) ?_
              obtain ⟨r6, hr6, hf⟩ := ob_bind hf
              have hFc := va_free (wc := ce_X6 G.2.1 a0 S0) hD hS hA [0, 1, 2, 3, 4, 5, 6, 7, 8, 9] rfl
              refine zc_ro (va_runV (As := [.int v4, .int 1]) (rest := [.int v3]) ⟨hx, hb, hml, hown, hts⟩ (c_X6_get l G a0 H.size S0 v4 1 _ hr6) (cwV 2 hts gX6_worth_X6_get rfl rfl rfl (by decide +kernel) ⟨Nat.le_of_ble_eq_true rfl, Nat.le_of_ble_eq_true rfl⟩) ⟨PcM.blind, va_recv hK hP (ci := 6) (q0 := 0) rfl rfl, PcM.ok hP hD hK hE hS hFc⟩ rfl rfl hl.1 rfl (lv_room (Nat.le_of_ble_eq_true rfl)) dX6_worth_76 ⟨Nat.le_refl _, Nat.le_refl _⟩) hP hD hS hA [0, 1, 2, 3, 4, 5, 6, 7, 8, 9] rfl (fun H locs hP hS => ?_)
              refine lv_bipush (v := 6) hx hb dX6_worth_79 (by decide) ?_
              refine lv_icmp_ne (tgt := 88) hx hb dX6_worth_81 (by decide) (fun c7 => ?_) (fun c7 => ?_)
              · replace hf := ob_neg c7 hf
                refine lv_iconst (v := 1) hx hb dX6_worth_88 (by decide) ?_
                exact blk89 _ _ _ _ _ hf _ _ hP hD hS _ (lv_sub hl [1, 2, 3, 5] rfl)
              · replace hf := ob_pos c7 hf
                refine lv_iconst (v := 2) hx hb dX6_worth_84 (by decide) ?_
                refine lv_goto (tgt := 89) hx hb dX6_worth_85 (by decide) ?_
                exact blk89 _ _ _ _ _ hf _ _ hP hD hS _ (lv_sub hl [1, 2, 3, 5] rfl)
      have blk38 : ∀ (v1 : Int32) (v2 : Int32) (v3 : Int32) (v4 : Int32), f_X6_worth_b38 S0 (f_X6_worth_b5 S0 fu5) v1 v2 v3 v4 = some out → ∀ (H : Heap) (locs : List Loc), va_P G.1 vwCl (ce_X6 G.2.1 a0 S0) H → va_D A (ce_X6 G.2.1 a0 S0) → va_S A s.heap H locs → ∀ (ls : Array Slot), lv_has ls 6 [(0, .ref a0.1), (1, .int v1), (2, .int v2), (3, .int v3), (4, .int v4)] → W p l e (headSpec wsX6_worth rm_X6_worth).room s m args below meth c H locs 0 0 Q (F0 m 38 ls []) := by
        intro v1 v2 v3 v4 hf H locs hP hD hS ls hl
        rw [f_X6_worth_b38] at hf
        refine lv_iconst (v := 1) hx hb dX6_worth_38 (by decide) ?_
        refine lv_goto (tgt := 43) hx hb dX6_worth_39 (by decide) ?_
        exact blk43 _ _ _ _ _ hf _ _ hP hD hS _ (lv_sub hl [0, 1, 2, 3, 4] rfl)
      refine lv_iload hx hb dX6_worth_5 (lv_at hl 4 rfl) ?_
      refine lv_aload_n hx hb dX6_worth_7 rfl (lv_at hl 0 rfl) ?_
      refine va_get (D := G.1) (ci := 6) (v := .ref a0.2.2.1) (C := RX6) (T := TX6) (N := 14) hx hb hts hinX6 hown hK hP 0 rfl rfl 1 (by decide) lk0 (fun _ h9 => h9) rfl dX6_worth_8 ?_
      refine lv_iconst (v := 0) hx hb dX6_worth_11 (by decide) ?_
      refine va_iald hx hb hK hP 2 0 rfl rfl (by decide : inB 0 130) dX6_worth_12 ?_
      refine zl_top (y := S0.2.1 0) rfl ?_
      refine lv_icmp_ge (tgt := 97) hx hb dX6_worth_13 (by decide) (fun c8 => ?_) (fun c8 => ?_)
      · replace hf := ob_pos c8 hf
        refine lv_iload_n hx hb dX6_worth_97 rfl (lv_at hl 3 rfl) ?_
        exact fin _ _ _ _ _ hf hP hD hS dX6_worth_98
      · replace hf := ob_neg c8 hf
        refine lv_aload_n hx hb dX6_worth_16 rfl (lv_at hl 0 rfl) ?_
        refine lv_iload hx hb dX6_worth_17 (lv_at hl 4 rfl) ?_
        refine lv_iconst (v := 3) hx hb dX6_worth_19 (by decide) ?_
        obtain ⟨r9, hr9, hf⟩ := ob_bind hf
        have hFc := va_free (wc := ce_X6 G.2.1 a0 S0) hD hS hA [0, 1, 2, 3, 4, 5, 6, 7, 8, 9] rfl
        refine zc_ro (va_runV (As := [.int v4, .int 3]) (rest := []) ⟨hx, hb, hml, hown, hts⟩ (c_X6_get l G a0 H.size S0 v4 3 _ hr9) (cwV 2 hts gX6_worth_X6_get rfl rfl rfl (by decide +kernel) ⟨Nat.le_of_ble_eq_true rfl, Nat.le_of_ble_eq_true rfl⟩) ⟨PcM.blind, va_recv hK hP (ci := 6) (q0 := 0) rfl rfl, PcM.ok hP hD hK hE hS hFc⟩ rfl rfl hl.1 rfl (lv_room (Nat.le_of_ble_eq_true rfl)) dX6_worth_20 ⟨Nat.le_refl _, Nat.le_refl _⟩) hP hD hS hA [0, 1, 2, 3, 4, 5, 6, 7, 8, 9] rfl (fun H locs hP hS => ?_)
        refine lv_if_lt (tgt := 38) hx hb dX6_worth_23 (by decide) (fun c10 => ?_) (fun c10 => ?_)
        · replace hf := ob_pos c10 hf
          exact blk38 _ _ _ _ hf _ _ hP hD hS _ (lv_sub hl [0, 1, 2, 3, 4] rfl)
        · replace hf := ob_neg c10 hf
          refine lv_aload_n hx hb dX6_worth_26 rfl (lv_at hl 0 rfl) ?_
          refine lv_iload hx hb dX6_worth_27 (lv_at hl 4 rfl) ?_
          refine lv_iconst (v := 3) hx hb dX6_worth_29 (by decide) ?_
          obtain ⟨r11, hr11, hf⟩ := ob_bind hf
          have hFc := va_free (wc := ce_X6 G.2.1 a0 S0) hD hS hA [0, 1, 2, 3, 4, 5, 6, 7, 8, 9] rfl
          refine zc_ro (va_runV (As := [.int v4, .int 3]) (rest := []) ⟨hx, hb, hml, hown, hts⟩ (c_X6_get l G a0 H.size S0 v4 3 _ hr11) (cwV 2 hts gX6_worth_X6_get rfl rfl rfl (by decide +kernel) ⟨Nat.le_of_ble_eq_true rfl, Nat.le_of_ble_eq_true rfl⟩) ⟨PcM.blind, va_recv hK hP (ci := 6) (q0 := 0) rfl rfl, PcM.ok hP hD hK hE hS hFc⟩ rfl rfl hl.1 rfl (lv_room (Nat.le_of_ble_eq_true rfl)) dX6_worth_30 ⟨Nat.le_refl _, Nat.le_refl _⟩) hP hD hS hA [0, 1, 2, 3, 4, 5, 6, 7, 8, 9] rfl (fun H locs hP hS => ?_)
          refine lv_iload hx hb dX6_worth_33 (lv_at hl 4 rfl) ?_
          refine lv_icmp_le (tgt := 42) hx hb dX6_worth_35 (by decide) (fun c12 => ?_) (fun c12 => ?_)
          · replace hf := ob_pos c12 hf
            refine lv_iconst (v := 0) hx hb dX6_worth_42 (by decide) ?_
            exact blk43 _ _ _ _ _ hf _ _ hP hD hS _ (lv_sub hl [0, 1, 2, 3, 4] rfl)
          · replace hf := ob_neg c12 hf
            exact blk38 _ _ _ _ hf _ _ hP hD hS _ (lv_sub hl [0, 1, 2, 3, 4] rfl)
  have go : ∀ (H : Heap) (locs : List Loc), va_P G.1 vwCl (ce_X6 G.2.1 a0 S0) H → va_D A (ce_X6 G.2.1 a0 S0) → va_S A s.heap H locs → ∀ (ls : Array Slot), lv_has ls 6 [(0, .ref a0.1), (1, .int p1), (2, .int p2)] → W p l e (headSpec wsX6_worth rm_X6_worth).room s m args below meth c H locs 0 0 Q (F0 m 0 ls []) := by
    intro H locs hP hD hS ls hl
    refine lv_iconst (v := 0) hx hb dX6_worth_0 (by decide) ?_
    refine lv_istore_n (lv' := [(3, .int 0), (0, .ref a0.1), (1, .int p1), (2, .int p2)]) hx hb dX6_worth_1 rfl hl (by decide) rfl (fun ls hl => ?_)
    refine lv_iconst (v := 0) hx hb dX6_worth_2 (by decide) ?_
    refine lv_istore (lv' := [(4, .int 0), (3, .int 0), (0, .ref a0.1), (1, .int p1), (2, .int p2)]) hx hb dX6_worth_3 hl (by decide) rfl (fun ls hl => ?_)
    exact blk5 4096 _ _ _ _ hf _ _ hP hD hS _ (lv_sub hl [2, 3, 4, 1, 0] rfl)
  exact go _ _ hP hD hS _ hl
abbrev rm_X6_newOf : Room := { frames := 5, cells := 0, slots := 0, locals := 113 }
set_option maxHeartbeats 4000000 in
set_option maxRecDepth 100000 in
theorem c_X6_newOf (l : Launch) (G : zG) (a0 : AT_X6) (sz : Nat) (S0 : ST_X6) (p1 : Int32) (out : Int32) (hf : f_X6_newOf S0 p1 = some out) : Met l yX6_newOf wsX6_newOf rm_X6_newOf (PcM G (ce_X6 G.2.1 a0 S0) [.ref a0.1, .int p1] sz) (QRo G (ce_X6 G.2.1 a0 S0) out (va_A (ce_X6 G.2.1 a0 S0) sz)) 0 0 (va_A (ce_X6 G.2.1 a0 S0) sz) := by
  rw [f_X6_newOf] at hf
  refine Met.ofW (cc := cX6_newOf) (maxL := 2) (ret := (some .int)) (by decide) rfl ?_
  intro p e s m args below meth c s₁ B hml hv
  obtain ⟨hargs, hsz, hP, hK, hD0, hE⟩ := hv
  have hx := B.exec
  have hb := B.bytes
  have hr := B.returns
  have hts := atoms_spec (ws := wsX6_newOf) B.pre
  have hown : s.vm.findClass RX6 = some m.cls := findClass_of_methodNamed B.named
  have hlocks := B.notSynchronized
  subst hsz
  have hD := hD0.self (sz := s.heap.size)
  generalize hAe : va_A (ce_X6 G.2.1 a0 S0) s.heap.size = A at hD hE ⊢
  have hA : ∀ q : Nat, s.heap.size ≤ q → A q := fun q h => by rw [← hAe]; exact Or.inr h
  have hS : va_S A s.heap s.heap [] := va_S.rf
  have hl := lv_entry ([.ref a0.1, .int p1]) (n := 2) (Nat.le_of_ble_eq_true rfl)
  have hent : entryFrame m args 2 = F0 m 0 ((lg_sl ([.ref a0.1, .int p1]) ++ List.replicate (2 - (lg_sl ([.ref a0.1, .int p1])).length) Slot.unset).toArray) [] := by rw [hargs, lg_entry_eq]
  rw [hent]
  clear hent
  generalize (lg_sl ([.ref a0.1, .int p1]) ++ List.replicate (2 - (lg_sl ([.ref a0.1, .int p1])).length) Slot.unset).toArray = ls at hl ⊢
  have hl : lv_has ls 2 [(0, .ref a0.1), (1, .int p1)] := hl
  have fin : ∀ (pc : Nat) (v : Int32) (H : Heap) (locs : List Loc) (ls : Array Slot), some v = some out → va_P G.1 vwCl (ce_X6 G.2.1 a0 S0) H → va_D A (ce_X6 G.2.1 a0 S0) → va_S A s.heap H locs → decode cX6_newOf pc = .ok (.ireturn, 1) → W p l e (headSpec wsX6_newOf rm_X6_newOf).room s m args below meth c H locs 0 0 (MQ below (QRo G (ce_X6 G.2.1 a0 S0) out A) args s 0 0 A) (F0 m pc ls [.int v]) := fun pc v H locs ls ho hP hD hS hd => W.iret (v := v) hx hb hr (fun t ht hW => ⟨⟨v, (), rfl, Option.some.inj ho, by first | (rw [ht]; exact hP) | (dsimp only; rw [ht]; exact hP)⟩, hS.F ht⟩) hS.2.2 hd
  generalize MQ below (QRo G (ce_X6 G.2.1 a0 S0) out A) args s 0 0 A = Q at fin ⊢
  have go : ∀ (H : Heap) (locs : List Loc), va_P G.1 vwCl (ce_X6 G.2.1 a0 S0) H → va_D A (ce_X6 G.2.1 a0 S0) → va_S A s.heap H locs → ∀ (ls : Array Slot), lv_has ls 2 [(0, .ref a0.1), (1, .int p1)] → W p l e (headSpec wsX6_newOf rm_X6_newOf).room s m args below meth c H locs 0 0 Q (F0 m 0 ls []) := by
    intro H locs hP hD hS ls hl
    refine lv_aload_n hx hb dX6_newOf_0 rfl (lv_at hl 0 rfl) ?_
    refine lv_iload_n hx hb dX6_newOf_1 rfl (lv_at hl 1 rfl) ?_
    refine lv_iconst (v := 0) hx hb dX6_newOf_2 (by decide) ?_
    obtain ⟨r1, hr1, hf⟩ := ob_bind hf
    have hFc := va_free (wc := ce_X6 G.2.1 a0 S0) hD hS hA [0, 1, 2, 3, 4, 5, 6, 7, 8, 9] rfl
    refine zc_ro (va_runV (As := [.int p1, .int 0]) (rest := []) ⟨hx, hb, hml, hown, hts⟩ (c_X6_worth l G a0 H.size S0 p1 0 _ hr1) (cwV 2 hts gX6_newOf_X6_worth rfl rfl rfl (by decide +kernel) ⟨Nat.le_of_ble_eq_true rfl, Nat.le_of_ble_eq_true rfl⟩) ⟨PcM.blind, va_recv hK hP (ci := 6) (q0 := 0) rfl rfl, PcM.ok hP hD hK hE hS hFc⟩ rfl rfl hl.1 rfl (lv_room (Nat.le_of_ble_eq_true rfl)) dX6_newOf_3 ⟨Nat.le_refl _, Nat.le_refl _⟩) hP hD hS hA [0, 1, 2, 3, 4, 5, 6, 7, 8, 9] rfl (fun H locs hP hS => ?_)
    exact fin _ _ _ _ _ hf hP hD hS dX6_newOf_6
  exact go _ _ hP hD hS _ hl
abbrev rm_X6_engine : Room := { frames := 4, cells := 0, slots := 0, locals := 88 }
set_option maxHeartbeats 4000000 in
set_option maxRecDepth 100000 in
theorem c_X6_engine (l : Launch) (G : zG) (a0 : AT_X6) (sz : Nat) (S0 : ST_X6) (p1 : Int32) (p2 : Int32) (out : Int32 × ST_X6) (hf : f_X6_engine S0 p1 p2 = some out) : Met l yX6_engine wsX6_engine rm_X6_engine (PcM G (ce_X6 G.2.1 a0 S0) [.ref a0.1, .int p1, .int p2] sz) (QWr G (fun u => ce_X6 G.2.1 a0 u) out (va_A (ce_X6 G.2.1 a0 S0) sz)) 0 0 (va_A (ce_X6 G.2.1 a0 S0) sz) := by
  rw [f_X6_engine] at hf
  refine Met.ofW (cc := cX6_engine) (maxL := 3) (ret := (some .int)) (by decide) rfl ?_
  intro p e s m args below meth c s₁ B hml hv
  obtain ⟨hargs, hsz, hP, hK, hD0, hE⟩ := hv
  have hx := B.exec
  have hb := B.bytes
  have hr := B.returns
  have hts := atoms_spec (ws := wsX6_engine) B.pre
  have hown : s.vm.findClass RX6 = some m.cls := findClass_of_methodNamed B.named
  have hlocks := B.notSynchronized
  subst hsz
  have hD := hD0.self (sz := s.heap.size)
  generalize hAe : va_A (ce_X6 G.2.1 a0 S0) s.heap.size = A at hD hE ⊢
  have hA : ∀ q : Nat, s.heap.size ≤ q → A q := fun q h => by rw [← hAe]; exact Or.inr h
  have hS : va_S A s.heap s.heap [] := va_S.rf
  have hl := lv_entry ([.ref a0.1, .int p1, .int p2]) (n := 3) (Nat.le_of_ble_eq_true rfl)
  have hent : entryFrame m args 3 = F0 m 0 ((lg_sl ([.ref a0.1, .int p1, .int p2]) ++ List.replicate (3 - (lg_sl ([.ref a0.1, .int p1, .int p2])).length) Slot.unset).toArray) [] := by rw [hargs, lg_entry_eq]
  rw [hent]
  clear hent
  generalize (lg_sl ([.ref a0.1, .int p1, .int p2]) ++ List.replicate (3 - (lg_sl ([.ref a0.1, .int p1, .int p2])).length) Slot.unset).toArray = ls at hl ⊢
  have hl : lv_has ls 3 [(0, .ref a0.1), (1, .int p1), (2, .int p2)] := hl
  have lk0 := hts (Cond.fieldLink RX6 13 "EnginesOnListModel" "s" "[I") (List.mem_of_getElem? (i := 1) rfl)
  have hinX6 : ∀ w ∈ wsX60, w ∈ wsX6_engine := by decide +kernel
  have fin : ∀ (pc : Nat) (v : Int32) (u : ST_X6) (H : Heap) (locs : List Loc) (ls : Array Slot), some (v, u) = some out → va_P G.1 vwCl (ce_X6 G.2.1 a0 u) H → va_D A (ce_X6 G.2.1 a0 u) → va_S A s.heap H locs → decode cX6_engine pc = .ok (.ireturn, 1) → W p l e (headSpec wsX6_engine rm_X6_engine).room s m args below meth c H locs 0 0 (MQ below (QWr G (fun u => ce_X6 G.2.1 a0 u) out A) args s 0 0 A) (F0 m pc ls [.int v]) := fun pc v u H locs ls ho hP hD hS hd => W.iret (v := v) hx hb hr (fun t ht hW => ⟨⟨v, u, rfl, ob_pair ho, by first | (rw [ht]; exact hP) | (dsimp only; rw [ht]; exact hP), hD⟩, hS.F ht⟩) hS.2.2 hd
  generalize MQ below (QWr G (fun u => ce_X6 G.2.1 a0 u) out A) args s 0 0 A = Q at fin ⊢
  have blk56 : ∀ (S0 : ST_X6) (v1 : Int32) (v2 : Int32), f_X6_engine_b56 S0 v1 v2 = some out → ∀ (H : Heap) (locs : List Loc), va_P G.1 vwCl (ce_X6 G.2.1 a0 S0) H → va_D A (ce_X6 G.2.1 a0 S0) → va_S A s.heap H locs → ∀ (ls : Array Slot), lv_has ls 3 [(0, .ref a0.1), (1, .int v1), (2, .int v2)] → W p l e (headSpec wsX6_engine rm_X6_engine).room s m args below meth c H locs 0 0 Q (F0 m 56 ls []) := by
    intro S0 v1 v2 hf H locs hP hD hS ls hl
    rw [f_X6_engine_b56] at hf
    refine lv_aload_n hx hb dX6_engine_56 rfl (lv_at hl 0 rfl) ?_
    refine lv_iload_n hx hb dX6_engine_57 rfl (lv_at hl 1 rfl) ?_
    refine lv_iload_n hx hb dX6_engine_58 rfl (lv_at hl 2 rfl) ?_
    obtain ⟨r1, hr1, hf⟩ := ob_bind hf
    have hFc := va_free (wc := ce_X6 G.2.1 a0 S0) hD hS hA [0, 1, 2, 3, 4, 5, 6, 7, 8, 9] rfl
    refine zc_ro (va_runV (As := [.int v1, .int v2]) (rest := []) ⟨hx, hb, hml, hown, hts⟩ (c_X6_get l G a0 H.size S0 v1 v2 _ hr1) (cwV 2 hts gX6_engine_X6_get rfl rfl rfl (by decide +kernel) ⟨Nat.le_of_ble_eq_true rfl, Nat.le_of_ble_eq_true rfl⟩) ⟨PcM.blind, va_recv hK hP (ci := 6) (q0 := 0) rfl rfl, PcM.ok hP hD hK hE hS hFc⟩ rfl rfl hl.1 rfl (lv_room (Nat.le_of_ble_eq_true rfl)) dX6_engine_59 ⟨Nat.le_refl _, Nat.le_refl _⟩) hP hD hS hA [0, 1, 2, 3, 4, 5, 6, 7, 8, 9] rfl (fun H locs hP hS => ?_)
    exact fin _ _ _ _ _ _ hf hP hD hS dX6_engine_62
  have go : ∀ (H : Heap) (locs : List Loc), va_P G.1 vwCl (ce_X6 G.2.1 a0 S0) H → va_D A (ce_X6 G.2.1 a0 S0) → va_S A s.heap H locs → ∀ (ls : Array Slot), lv_has ls 3 [(0, .ref a0.1), (1, .int p1), (2, .int p2)] → W p l e (headSpec wsX6_engine rm_X6_engine).room s m args below meth c H locs 0 0 Q (F0 m 0 ls []) := by
    intro H locs hP hD hS ls hl
    refine lv_aload_n hx hb dX6_engine_0 rfl (lv_at hl 0 rfl) ?_
    refine lv_iload_n hx hb dX6_engine_1 rfl (lv_at hl 1 rfl) ?_
    obtain ⟨r2, hr2, hf⟩ := ob_bind hf
    have hFc := va_free (wc := ce_X6 G.2.1 a0 S0) hD hS hA [0, 1, 2, 3, 4, 5, 6, 7, 8, 9] rfl
    refine zc_ro (va_runV (As := [.int p1]) (rest := []) ⟨hx, hb, hml, hown, hts⟩ (c_X6_isEngine l G a0 H.size S0 p1 _ hr2) (cwV 1 hts gX6_engine_X6_isEngine rfl rfl rfl (by decide +kernel) ⟨Nat.le_of_ble_eq_true rfl, Nat.le_of_ble_eq_true rfl⟩) ⟨PcM.blind, va_recv hK hP (ci := 6) (q0 := 0) rfl rfl, PcM.ok hP hD hK hE hS hFc⟩ rfl rfl hl.1 rfl (lv_room (Nat.le_of_ble_eq_true rfl)) dX6_engine_2 ⟨Nat.le_refl _, Nat.le_refl _⟩) hP hD hS hA [0, 1, 2, 3, 4, 5, 6, 7, 8, 9] rfl (fun H locs hP hS => ?_)
    refine lv_if_ne (tgt := 14) hx hb dX6_engine_5 (by decide) (fun c3 => ?_) (fun c3 => ?_)
    · replace hf := ob_neg c3 hf
      refine lv_iload_n hx hb dX6_engine_14 rfl (lv_at hl 2 rfl) ?_
      by_cases c4_0 : p2 = 0
      · replace hf := ob_pos c4_0 hf
        refine lv_tableIn (x := p2) (off := 41) (tgt := 56) hx hb dX6_engine_15 (by rw [c4_0]; decide) (by rw [c4_0]; decide) (by rw [c4_0]; decide) (by decide) ?_
        exact blk56 _ _ _ hf _ _ hP hD hS _ (lv_sub hl [0, 1, 2] rfl)
      · replace hf := ob_neg c4_0 hf
        by_cases c4_1 : p2 = 1
        · replace hf := ob_pos c4_1 hf
          refine lv_tableIn (x := p2) (off := 41) (tgt := 56) hx hb dX6_engine_15 (by rw [c4_1]; decide) (by rw [c4_1]; decide) (by rw [c4_1]; decide) (by decide) ?_
          exact blk56 _ _ _ hf _ _ hP hD hS _ (lv_sub hl [0, 1, 2] rfl)
        · replace hf := ob_neg c4_1 hf
          by_cases c4_2 : p2 = 2
          · replace hf := ob_pos c4_2 hf
            refine lv_tableIn (x := p2) (off := 41) (tgt := 56) hx hb dX6_engine_15 (by rw [c4_2]; decide) (by rw [c4_2]; decide) (by rw [c4_2]; decide) (by decide) ?_
            exact blk56 _ _ _ hf _ _ hP hD hS _ (lv_sub hl [0, 1, 2] rfl)
          · replace hf := ob_neg c4_2 hf
            by_cases c4_3 : p2 = 3
            · replace hf := ob_pos c4_3 hf
              refine lv_tableIn (x := p2) (off := 41) (tgt := 56) hx hb dX6_engine_15 (by rw [c4_3]; decide) (by rw [c4_3]; decide) (by rw [c4_3]; decide) (by decide) ?_
              exact blk56 _ _ _ hf _ _ hP hD hS _ (lv_sub hl [0, 1, 2] rfl)
            · replace hf := ob_neg c4_3 hf
              by_cases c4_4 : p2 = 4
              · replace hf := ob_pos c4_4 hf
                refine lv_tableIn (x := p2) (off := 48) (tgt := 63) hx hb dX6_engine_15 (by rw [c4_4]; decide) (by rw [c4_4]; decide) (by rw [c4_4]; decide) (by decide) ?_
                refine lv_aload_n hx hb dX6_engine_63 rfl (lv_at hl 0 rfl) ?_
                refine va_get (D := G.1) (ci := 6) (v := .ref a0.2.2.1) (C := RX6) (T := TX6) (N := 14) hx hb hts hinX6 hown hK hP 0 rfl rfl 1 (by decide) lk0 (fun _ h9 => h9) rfl dX6_engine_64 ?_
                refine lv_iconst (v := 2) hx hb dX6_engine_67 (by decide) ?_
                refine va_iald hx hb hK hP 2 0 rfl rfl (by decide : inB 2 130) dX6_engine_68 ?_
                refine zl_top (y := S0.2.1 2) rfl ?_
                refine lv_iload_n hx hb dX6_engine_69 rfl (lv_at hl 1 rfl) ?_
                refine lv_ishr hx hb dX6_engine_70 ?_
                refine lv_iconst (v := 1) hx hb dX6_engine_71 (by decide) ?_
                refine lv_iand hx hb dX6_engine_72 ?_
                exact fin _ _ _ _ _ _ hf hP hD hS dX6_engine_73
              · replace hf := ob_neg c4_4 hf
                by_cases c4_5 : p2 = 5
                · replace hf := ob_pos c4_5 hf
                  refine lv_tableIn (x := p2) (off := 59) (tgt := 74) hx hb dX6_engine_15 (by rw [c4_5]; decide) (by rw [c4_5]; decide) (by rw [c4_5]; decide) (by decide) ?_
                  refine lv_aload_n hx hb dX6_engine_74 rfl (lv_at hl 0 rfl) ?_
                  refine va_get (D := G.1) (ci := 6) (v := .ref a0.2.2.1) (C := RX6) (T := TX6) (N := 14) hx hb hts hinX6 hown hK hP 0 rfl rfl 1 (by decide) lk0 (fun _ h9 => h9) rfl dX6_engine_75 ?_
                  refine lv_iconst (v := 3) hx hb dX6_engine_78 (by decide) ?_
                  refine va_iald hx hb hK hP 2 0 rfl rfl (by decide : inB 3 130) dX6_engine_79 ?_
                  refine zl_top (y := S0.2.1 3) rfl ?_
                  refine lv_iload_n hx hb dX6_engine_80 rfl (lv_at hl 1 rfl) ?_
                  refine lv_ishr hx hb dX6_engine_81 ?_
                  refine lv_iconst (v := 1) hx hb dX6_engine_82 (by decide) ?_
                  refine lv_iand hx hb dX6_engine_83 ?_
                  exact fin _ _ _ _ _ _ hf hP hD hS dX6_engine_84
                · replace hf := ob_neg c4_5 hf
                  by_cases c4_6 : p2 = 6
                  · replace hf := ob_pos c4_6 hf
                    refine lv_tableIn (x := p2) (off := 70) (tgt := 85) hx hb dX6_engine_15 (by rw [c4_6]; decide) (by rw [c4_6]; decide) (by rw [c4_6]; decide) (by decide) ?_
                    refine lv_aload_n hx hb dX6_engine_85 rfl (lv_at hl 0 rfl) ?_
                    refine lv_iload_n hx hb dX6_engine_86 rfl (lv_at hl 1 rfl) ?_
                    obtain ⟨r5, hr5, hf⟩ := ob_bind hf
                    have hFc := va_free (wc := ce_X6 G.2.1 a0 S0) hD hS hA [0, 1, 2, 3, 4, 5, 6, 7, 8, 9] rfl
                    refine zc_ro (va_runV (As := [.int p1]) (rest := []) ⟨hx, hb, hml, hown, hts⟩ (c_X6_isHad l G a0 H.size S0 p1 _ hr5) (cwV 1 hts gX6_engine_X6_isHad rfl rfl rfl (by decide +kernel) ⟨Nat.le_of_ble_eq_true rfl, Nat.le_of_ble_eq_true rfl⟩) ⟨PcM.blind, va_recv hK hP (ci := 6) (q0 := 0) rfl rfl, PcM.ok hP hD hK hE hS hFc⟩ rfl rfl hl.1 rfl (lv_room (Nat.le_of_ble_eq_true rfl)) dX6_engine_87 ⟨Nat.le_refl _, Nat.le_refl _⟩) hP hD hS hA [0, 1, 2, 3, 4, 5, 6, 7, 8, 9] rfl (fun H locs hP hS => ?_)
                    refine lv_if_eq (tgt := 97) hx hb dX6_engine_90 (by decide) (fun c6 => ?_) (fun c6 => ?_)
                    · replace hf := ob_pos c6 hf
                      refine lv_iconst (v := 0) hx hb dX6_engine_97 (by decide) ?_
                      exact fin _ _ _ _ _ _ hf hP hD hS dX6_engine_98
                    · replace hf := ob_neg c6 hf
                      refine lv_iconst (v := 1) hx hb dX6_engine_93 (by decide) ?_
                      refine lv_goto (tgt := 98) hx hb dX6_engine_94 (by decide) ?_
                      exact fin _ _ _ _ _ _ hf hP hD hS dX6_engine_98
                  · replace hf := ob_neg c4_6 hf
                    have tc4_0 := lv_neT (a := 0) c4_0 rfl
                    have tc4_1 := lv_neT (a := 1) c4_1 rfl
                    have tc4_2 := lv_neT (a := 2) c4_2 rfl
                    have tc4_3 := lv_neT (a := 3) c4_3 rfl
                    have tc4_4 := lv_neT (a := 4) c4_4 rfl
                    have tc4_5 := lv_neT (a := 5) c4_5 rfl
                    have tc4_6 := lv_neT (a := 6) c4_6 rfl
                    refine lv_tableOut (x := p2) (tgt := 99) hx hb dX6_engine_15 (by omega) (by decide) ?_
                    refine lv_aload_n hx hb dX6_engine_99 rfl (lv_at hl 0 rfl) ?_
                    refine lv_bipush (v := (-2)) hx hb dX6_engine_100 (by decide) ?_
                    obtain ⟨r7, hr7, hf⟩ := ob_bind hf
                    have hFc := va_free (wc := ce_X6 G.2.1 a0 S0) hD hS hA [0, 1, 2, 3, 4, 5, 6, 7, 8, 9] rfl
                    refine zc_wr (cf := (fun u => ce_X6 G.2.1 a0 u)) (ws' := ce_X6 G.2.1 a0 r7.2) (va_runV (As := [.int (-2)]) (rest := []) ⟨hx, hb, hml, hown, hts⟩ (c_X6_refuse l G a0 H.size S0 (-2) _ hr7) (cwV 1 hts gX6_engine_X6_refuse rfl rfl rfl (by decide +kernel) ⟨Nat.le_of_ble_eq_true rfl, Nat.le_of_ble_eq_true rfl⟩) ⟨PcM.blind, va_recv hK hP (ci := 6) (q0 := 0) rfl rfl, PcM.ok hP hD hK hE hS hFc⟩ rfl rfl hl.1 rfl (lv_room (Nat.le_of_ble_eq_true rfl)) dX6_engine_102 ⟨Nat.le_refl _, Nat.le_refl _⟩) hP hD hS hA [0, 1, 2, 3, 4, 5, 6, 7, 8, 9] [] [0, 1, 2, 3, 4, 5, 6, 7, 8, 9] rfl rfl (by decide) (by decide) (by decide) rfl (fun H locs hP hD hS => ?_)
                    exact fin _ _ _ _ _ _ hf hP hD hS dX6_engine_105
    · replace hf := ob_pos c3 hf
      refine lv_aload_n hx hb dX6_engine_8 rfl (lv_at hl 0 rfl) ?_
      refine lv_iconst (v := (-1)) hx hb dX6_engine_9 (by decide) ?_
      obtain ⟨r8, hr8, hf⟩ := ob_bind hf
      have hFc := va_free (wc := ce_X6 G.2.1 a0 S0) hD hS hA [0, 1, 2, 3, 4, 5, 6, 7, 8, 9] rfl
      refine zc_wr (cf := (fun u => ce_X6 G.2.1 a0 u)) (ws' := ce_X6 G.2.1 a0 r8.2) (va_runV (As := [.int (-1)]) (rest := []) ⟨hx, hb, hml, hown, hts⟩ (c_X6_refuse l G a0 H.size S0 (-1) _ hr8) (cwV 1 hts gX6_engine_X6_refuse rfl rfl rfl (by decide +kernel) ⟨Nat.le_of_ble_eq_true rfl, Nat.le_of_ble_eq_true rfl⟩) ⟨PcM.blind, va_recv hK hP (ci := 6) (q0 := 0) rfl rfl, PcM.ok hP hD hK hE hS hFc⟩ rfl rfl hl.1 rfl (lv_room (Nat.le_of_ble_eq_true rfl)) dX6_engine_10 ⟨Nat.le_refl _, Nat.le_refl _⟩) hP hD hS hA [0, 1, 2, 3, 4, 5, 6, 7, 8, 9] [] [0, 1, 2, 3, 4, 5, 6, 7, 8, 9] rfl rfl (by decide) (by decide) (by decide) rfl (fun H locs hP hD hS => ?_)
      exact fin _ _ _ _ _ _ hf hP hD hS dX6_engine_13
  exact go _ _ hP hD hS _ hl
abbrev rm_X6_turn : Room := { frames := 3, cells := 0, slots := 0, locals := 68 }
set_option maxHeartbeats 4000000 in
set_option maxRecDepth 100000 in
theorem c_X6_turn (l : Launch) (G : zG) (a0 : AT_X6) (sz : Nat) (S0 : ST_X6) (p1 : Int32) (p2 : Int32) (out : Int32 × ST_X6) (hf : f_X6_turn S0 p1 p2 = some out) : Met l yX6_turn wsX6_turn rm_X6_turn (PcM G (ce_X6 G.2.1 a0 S0) [.ref a0.1, .int p1, .int p2] sz) (QWr G (fun u => ce_X6 G.2.1 a0 u) out (va_A (ce_X6 G.2.1 a0 S0) sz)) 0 0 (va_A (ce_X6 G.2.1 a0 S0) sz) := by
  rw [f_X6_turn] at hf
  refine Met.ofW (cc := cX6_turn) (maxL := 4) (ret := (some .int)) (by decide) rfl ?_
  intro p e s m args below meth c s₁ B hml hv
  obtain ⟨hargs, hsz, hP, hK, hD0, hE⟩ := hv
  have hx := B.exec
  have hb := B.bytes
  have hr := B.returns
  have hts := atoms_spec (ws := wsX6_turn) B.pre
  have hown : s.vm.findClass RX6 = some m.cls := findClass_of_methodNamed B.named
  have hlocks := B.notSynchronized
  subst hsz
  have hD := hD0.self (sz := s.heap.size)
  generalize hAe : va_A (ce_X6 G.2.1 a0 S0) s.heap.size = A at hD hE ⊢
  have hA : ∀ q : Nat, s.heap.size ≤ q → A q := fun q h => by rw [← hAe]; exact Or.inr h
  have hS : va_S A s.heap s.heap [] := va_S.rf
  have hl := lv_entry ([.ref a0.1, .int p1, .int p2]) (n := 4) (Nat.le_of_ble_eq_true rfl)
  have hent : entryFrame m args 4 = F0 m 0 ((lg_sl ([.ref a0.1, .int p1, .int p2]) ++ List.replicate (4 - (lg_sl ([.ref a0.1, .int p1, .int p2])).length) Slot.unset).toArray) [] := by rw [hargs, lg_entry_eq]
  rw [hent]
  clear hent
  generalize (lg_sl ([.ref a0.1, .int p1, .int p2]) ++ List.replicate (4 - (lg_sl ([.ref a0.1, .int p1, .int p2])).length) Slot.unset).toArray = ls at hl ⊢
  have hl : lv_has ls 4 [(0, .ref a0.1), (1, .int p1), (2, .int p2)] := hl
  have fin : ∀ (pc : Nat) (v : Int32) (u : ST_X6) (H : Heap) (locs : List Loc) (ls : Array Slot), some (v, u) = some out → va_P G.1 vwCl (ce_X6 G.2.1 a0 u) H → va_D A (ce_X6 G.2.1 a0 u) → va_S A s.heap H locs → decode cX6_turn pc = .ok (.ireturn, 1) → W p l e (headSpec wsX6_turn rm_X6_turn).room s m args below meth c H locs 0 0 (MQ below (QWr G (fun u => ce_X6 G.2.1 a0 u) out A) args s 0 0 A) (F0 m pc ls [.int v]) := fun pc v u H locs ls ho hP hD hS hd => W.iret (v := v) hx hb hr (fun t ht hW => ⟨⟨v, u, rfl, ob_pair ho, by first | (rw [ht]; exact hP) | (dsimp only; rw [ht]; exact hP), hD⟩, hS.F ht⟩) hS.2.2 hd
  generalize MQ below (QWr G (fun u => ce_X6 G.2.1 a0 u) out A) args s 0 0 A = Q at fin ⊢
  have blk19 : ∀ (S0 : ST_X6) (v1 : Int32) (v2 : Int32) (w0 : Int32), f_X6_turn_b19 S0 v1 v2 w0 = some out → ∀ (H : Heap) (locs : List Loc), va_P G.1 vwCl (ce_X6 G.2.1 a0 S0) H → va_D A (ce_X6 G.2.1 a0 S0) → va_S A s.heap H locs → ∀ (ls : Array Slot), lv_has ls 4 [(0, .ref a0.1), (1, .int v1), (2, .int v2)] → W p l e (headSpec wsX6_turn rm_X6_turn).room s m args below meth c H locs 0 0 Q (F0 m 19 ls [.int w0]) := by
    intro S0 v1 v2 w0 hf H locs hP hD hS ls hl
    rw [f_X6_turn_b19] at hf
    refine lv_istore_n (lv' := [(3, .int w0), (0, .ref a0.1), (1, .int v1), (2, .int v2)]) hx hb dX6_turn_19 rfl hl (by decide) rfl (fun ls hl => ?_)
    refine lv_iload_n hx hb dX6_turn_20 rfl (lv_at hl 0 rfl) ?_
    refine lv_if_eq (tgt := 32) hx hb dX6_turn_21 (by decide) (fun c1 => ?_) (fun c1 => ?_)
    · replace hf := ob_pos c1 hf
      refine lv_aload_n hx hb dX6_turn_32 rfl (lv_at hl 1 rfl) ?_
      refine lv_iload_n hx hb dX6_turn_33 rfl (lv_at hl 2 rfl) ?_
      refine lv_iload_n hx hb dX6_turn_34 rfl (lv_at hl 3 rfl) ?_
      obtain ⟨r2, hr2, hf⟩ := ob_bind hf
      have hFc := va_free (wc := ce_X6 G.2.1 a0 S0) hD hS hA [0, 1, 2, 3, 4, 5, 6, 7, 8, 9] rfl
      refine zc_ro (va_runV (As := [.int v1, .int v2]) (rest := []) ⟨hx, hb, hml, hown, hts⟩ (c_X6_turnOf l G a0 H.size S0 v1 v2 _ hr2) (cwV 2 hts gX6_turn_X6_turnOf rfl rfl rfl (by decide +kernel) ⟨Nat.le_of_ble_eq_true rfl, Nat.le_of_ble_eq_true rfl⟩) ⟨PcM.blind, va_recv hK hP (ci := 6) (q0 := 0) rfl rfl, PcM.ok hP hD hK hE hS hFc⟩ rfl rfl hl.1 rfl (lv_room (Nat.le_of_ble_eq_true rfl)) dX6_turn_35 ⟨Nat.le_refl _, Nat.le_refl _⟩) hP hD hS hA [0, 1, 2, 3, 4, 5, 6, 7, 8, 9] rfl (fun H locs hP hS => ?_)
      exact fin _ _ _ _ _ _ hf hP hD hS dX6_turn_38
    · replace hf := ob_neg c1 hf
      refine lv_aload_n hx hb dX6_turn_24 rfl (lv_at hl 1 rfl) ?_
      refine lv_iload_n hx hb dX6_turn_25 rfl (lv_at hl 0 rfl) ?_
      obtain ⟨r3, hr3, hf⟩ := ob_bind hf
      have hFc := va_free (wc := ce_X6 G.2.1 a0 S0) hD hS hA [0, 1, 2, 3, 4, 5, 6, 7, 8, 9] rfl
      refine zc_wr (cf := (fun u => ce_X6 G.2.1 a0 u)) (ws' := ce_X6 G.2.1 a0 r3.2) (va_runV (As := [.int w0]) (rest := []) ⟨hx, hb, hml, hown, hts⟩ (c_X6_refuse l G a0 H.size S0 w0 _ hr3) (cwV 1 hts gX6_turn_X6_refuse rfl rfl rfl (by decide +kernel) ⟨Nat.le_of_ble_eq_true rfl, Nat.le_of_ble_eq_true rfl⟩) ⟨PcM.blind, va_recv hK hP (ci := 6) (q0 := 0) rfl rfl, PcM.ok hP hD hK hE hS hFc⟩ rfl rfl hl.1 rfl (lv_room (Nat.le_of_ble_eq_true rfl)) dX6_turn_26 ⟨Nat.le_refl _, Nat.le_refl _⟩) hP hD hS hA [0, 1, 2, 3, 4, 5, 6, 7, 8, 9] [] [0, 1, 2, 3, 4, 5, 6, 7, 8, 9] rfl rfl (by decide) (by decide) (by decide) rfl (fun H locs hP hD hS => ?_)
      refine lv_goto (tgt := 38) hx hb dX6_turn_29 (by decide) ?_
      exact fin _ _ _ _ _ _ hf hP hD hS dX6_turn_38
  have go : ∀ (H : Heap) (locs : List Loc), va_P G.1 vwCl (ce_X6 G.2.1 a0 S0) H → va_D A (ce_X6 G.2.1 a0 S0) → va_S A s.heap H locs → ∀ (ls : Array Slot), lv_has ls 4 [(0, .ref a0.1), (1, .int p1), (2, .int p2)] → W p l e (headSpec wsX6_turn rm_X6_turn).room s m args below meth c H locs 0 0 Q (F0 m 0 ls []) := by
    intro H locs hP hD hS ls hl
    refine lv_aload_n hx hb dX6_turn_0 rfl (lv_at hl 0 rfl) ?_
    refine lv_iload_n hx hb dX6_turn_1 rfl (lv_at hl 1 rfl) ?_
    obtain ⟨r4, hr4, hf⟩ := ob_bind hf
    have hFc := va_free (wc := ce_X6 G.2.1 a0 S0) hD hS hA [0, 1, 2, 3, 4, 5, 6, 7, 8, 9] rfl
    refine zc_ro (va_runV (As := [.int p1]) (rest := []) ⟨hx, hb, hml, hown, hts⟩ (c_X6_isEngine l G a0 H.size S0 p1 _ hr4) (cwV 1 hts gX6_turn_X6_isEngine rfl rfl rfl (by decide +kernel) ⟨Nat.le_of_ble_eq_true rfl, Nat.le_of_ble_eq_true rfl⟩) ⟨PcM.blind, va_recv hK hP (ci := 6) (q0 := 0) rfl rfl, PcM.ok hP hD hK hE hS hFc⟩ rfl rfl hl.1 rfl (lv_room (Nat.le_of_ble_eq_true rfl)) dX6_turn_2 ⟨Nat.le_refl _, Nat.le_refl _⟩) hP hD hS hA [0, 1, 2, 3, 4, 5, 6, 7, 8, 9] rfl (fun H locs hP hS => ?_)
    refine lv_if_eq (tgt := 18) hx hb dX6_turn_5 (by decide) (fun c5 => ?_) (fun c5 => ?_)
    · replace hf := ob_pos c5 hf
      refine lv_iconst (v := (-1)) hx hb dX6_turn_18 (by decide) ?_
      exact blk19 _ _ _ _ hf _ _ hP hD hS _ (lv_sub hl [0, 1, 2] rfl)
    · replace hf := ob_neg c5 hf
      refine lv_iload_n hx hb dX6_turn_8 rfl (lv_at hl 2 rfl) ?_
      refine lv_iconst (v := 0) hx hb dX6_turn_9 (by decide) ?_
      refine lv_bipush (v := 6) hx hb dX6_turn_10 (by decide) ?_
      obtain ⟨r6, hr6, hf⟩ := ob_bind hf
      have hPc : va_P G.1 vwCl (([] : va_W)) H := hP.sub [] rfl
      have hDc : va_D A (([] : va_W)) := hD.sub [] (by decide) rfl
      have hFc := va_free (wc := ([] : va_W)) hD hS hA [] rfl
      refine zc_ro (va_runS (As := [.int p2, .int 0, .int 6]) (rest := []) ⟨hx, hb, hml, hown, hts⟩ (c_X6_within l G H.size p2 0 6 _ hr6) (va_cwS 3 hts gX6_turn_X6_within rfl rfl rfl (by decide +kernel) ⟨Nat.le_of_ble_eq_true rfl, Nat.le_of_ble_eq_true rfl⟩) ⟨PcM.blind, PcM.ok hPc hDc hK hE hS hFc⟩ rfl rfl hl.1 rfl (lv_room (Nat.le_of_ble_eq_true rfl)) dX6_turn_12 ⟨Nat.le_refl _, Nat.le_refl _⟩) hP hD hS hA [] rfl (fun H locs hP hS => ?_)
      refine lv_goto (tgt := 19) hx hb dX6_turn_15 (by decide) ?_
      exact blk19 _ _ _ _ hf _ _ hP hD hS _ (lv_sub hl [0, 1, 2] rfl)
  exact go _ _ hP hD hS _ hl
abbrev rm_X6_at : Room := { frames := 4, cells := 0, slots := 0, locals := 92 }
set_option maxHeartbeats 4000000 in
set_option maxRecDepth 100000 in
theorem c_X6_at (l : Launch) (G : zG) (a0 : AT_X6) (sz : Nat) (S0 : ST_X6) (p1 : Int32) (p2 : Int32) (out : Int32 × ST_X6) (hf : f_X6_at S0 p1 p2 = some out) : Met l yX6_at wsX6_at rm_X6_at (PcM G (ce_X6 G.2.1 a0 S0) [.ref a0.1, .int p1, .int p2] sz) (QWr G (fun u => ce_X6 G.2.1 a0 u) out (va_A (ce_X6 G.2.1 a0 S0) sz)) 0 0 (va_A (ce_X6 G.2.1 a0 S0) sz) := by
  rw [f_X6_at] at hf
  refine Met.ofW (cc := cX6_at) (maxL := 4) (ret := (some .int)) (by decide) rfl ?_
  intro p e s m args below meth c s₁ B hml hv
  obtain ⟨hargs, hsz, hP, hK, hD0, hE⟩ := hv
  have hx := B.exec
  have hb := B.bytes
  have hr := B.returns
  have hts := atoms_spec (ws := wsX6_at) B.pre
  have hown : s.vm.findClass RX6 = some m.cls := findClass_of_methodNamed B.named
  have hlocks := B.notSynchronized
  subst hsz
  have hD := hD0.self (sz := s.heap.size)
  generalize hAe : va_A (ce_X6 G.2.1 a0 S0) s.heap.size = A at hD hE ⊢
  have hA : ∀ q : Nat, s.heap.size ≤ q → A q := fun q h => by rw [← hAe]; exact Or.inr h
  have hS : va_S A s.heap s.heap [] := va_S.rf
  have hl := lv_entry ([.ref a0.1, .int p1, .int p2]) (n := 4) (Nat.le_of_ble_eq_true rfl)
  have hent : entryFrame m args 4 = F0 m 0 ((lg_sl ([.ref a0.1, .int p1, .int p2]) ++ List.replicate (4 - (lg_sl ([.ref a0.1, .int p1, .int p2])).length) Slot.unset).toArray) [] := by rw [hargs, lg_entry_eq]
  rw [hent]
  clear hent
  generalize (lg_sl ([.ref a0.1, .int p1, .int p2]) ++ List.replicate (4 - (lg_sl ([.ref a0.1, .int p1, .int p2])).length) Slot.unset).toArray = ls at hl ⊢
  have hl : lv_has ls 4 [(0, .ref a0.1), (1, .int p1), (2, .int p2)] := hl
  have fin : ∀ (pc : Nat) (v : Int32) (u : ST_X6) (H : Heap) (locs : List Loc) (ls : Array Slot), some (v, u) = some out → va_P G.1 vwCl (ce_X6 G.2.1 a0 u) H → va_D A (ce_X6 G.2.1 a0 u) → va_S A s.heap H locs → decode cX6_at pc = .ok (.ireturn, 1) → W p l e (headSpec wsX6_at rm_X6_at).room s m args below meth c H locs 0 0 (MQ below (QWr G (fun u => ce_X6 G.2.1 a0 u) out A) args s 0 0 A) (F0 m pc ls [.int v]) := fun pc v u H locs ls ho hP hD hS hd => W.iret (v := v) hx hb hr (fun t ht hW => ⟨⟨v, u, rfl, ob_pair ho, by first | (rw [ht]; exact hP) | (dsimp only; rw [ht]; exact hP), hD⟩, hS.F ht⟩) hS.2.2 hd
  generalize MQ below (QWr G (fun u => ce_X6 G.2.1 a0 u) out A) args s 0 0 A = Q at fin ⊢
  have blk20 : ∀ (S0 : ST_X6) (v1 : Int32) (v2 : Int32) (w0 : Int32), f_X6_at_b20 S0 v1 v2 w0 = some out → ∀ (H : Heap) (locs : List Loc), va_P G.1 vwCl (ce_X6 G.2.1 a0 S0) H → va_D A (ce_X6 G.2.1 a0 S0) → va_S A s.heap H locs → ∀ (ls : Array Slot), lv_has ls 4 [(0, .ref a0.1), (1, .int v1), (2, .int v2)] → W p l e (headSpec wsX6_at rm_X6_at).room s m args below meth c H locs 0 0 Q (F0 m 20 ls [.int w0]) := by
    intro S0 v1 v2 w0 hf H locs hP hD hS ls hl
    rw [f_X6_at_b20] at hf
    refine lv_istore_n (lv' := [(3, .int w0), (0, .ref a0.1), (1, .int v1), (2, .int v2)]) hx hb dX6_at_20 rfl hl (by decide) rfl (fun ls hl => ?_)
    refine lv_iload_n hx hb dX6_at_21 rfl (lv_at hl 0 rfl) ?_
    refine lv_if_eq (tgt := 33) hx hb dX6_at_22 (by decide) (fun c1 => ?_) (fun c1 => ?_)
    · replace hf := ob_pos c1 hf
      refine lv_aload_n hx hb dX6_at_33 rfl (lv_at hl 1 rfl) ?_
      refine lv_iload_n hx hb dX6_at_34 rfl (lv_at hl 2 rfl) ?_
      refine lv_iload_n hx hb dX6_at_35 rfl (lv_at hl 3 rfl) ?_
      obtain ⟨r2, hr2, hf⟩ := ob_bind hf
      have hFc := va_free (wc := ce_X6 G.2.1 a0 S0) hD hS hA [0, 1, 2, 3, 4, 5, 6, 7, 8, 9] rfl
      refine zc_ro (va_runV (As := [.int v1, .int v2]) (rest := []) ⟨hx, hb, hml, hown, hts⟩ (c_X6_isAt l G a0 H.size S0 v1 v2 _ hr2) (cwV 2 hts gX6_at_X6_isAt rfl rfl rfl (by decide +kernel) ⟨Nat.le_of_ble_eq_true rfl, Nat.le_of_ble_eq_true rfl⟩) ⟨PcM.blind, va_recv hK hP (ci := 6) (q0 := 0) rfl rfl, PcM.ok hP hD hK hE hS hFc⟩ rfl rfl hl.1 rfl (lv_room (Nat.le_of_ble_eq_true rfl)) dX6_at_36 ⟨Nat.le_refl _, Nat.le_refl _⟩) hP hD hS hA [0, 1, 2, 3, 4, 5, 6, 7, 8, 9] rfl (fun H locs hP hS => ?_)
      exact fin _ _ _ _ _ _ hf hP hD hS dX6_at_39
    · replace hf := ob_neg c1 hf
      refine lv_aload_n hx hb dX6_at_25 rfl (lv_at hl 1 rfl) ?_
      refine lv_iload_n hx hb dX6_at_26 rfl (lv_at hl 0 rfl) ?_
      obtain ⟨r3, hr3, hf⟩ := ob_bind hf
      have hFc := va_free (wc := ce_X6 G.2.1 a0 S0) hD hS hA [0, 1, 2, 3, 4, 5, 6, 7, 8, 9] rfl
      refine zc_wr (cf := (fun u => ce_X6 G.2.1 a0 u)) (ws' := ce_X6 G.2.1 a0 r3.2) (va_runV (As := [.int w0]) (rest := []) ⟨hx, hb, hml, hown, hts⟩ (c_X6_refuse l G a0 H.size S0 w0 _ hr3) (cwV 1 hts gX6_at_X6_refuse rfl rfl rfl (by decide +kernel) ⟨Nat.le_of_ble_eq_true rfl, Nat.le_of_ble_eq_true rfl⟩) ⟨PcM.blind, va_recv hK hP (ci := 6) (q0 := 0) rfl rfl, PcM.ok hP hD hK hE hS hFc⟩ rfl rfl hl.1 rfl (lv_room (Nat.le_of_ble_eq_true rfl)) dX6_at_27 ⟨Nat.le_refl _, Nat.le_refl _⟩) hP hD hS hA [0, 1, 2, 3, 4, 5, 6, 7, 8, 9] [] [0, 1, 2, 3, 4, 5, 6, 7, 8, 9] rfl rfl (by decide) (by decide) (by decide) rfl (fun H locs hP hD hS => ?_)
      refine lv_goto (tgt := 39) hx hb dX6_at_30 (by decide) ?_
      exact fin _ _ _ _ _ _ hf hP hD hS dX6_at_39
  have go : ∀ (H : Heap) (locs : List Loc), va_P G.1 vwCl (ce_X6 G.2.1 a0 S0) H → va_D A (ce_X6 G.2.1 a0 S0) → va_S A s.heap H locs → ∀ (ls : Array Slot), lv_has ls 4 [(0, .ref a0.1), (1, .int p1), (2, .int p2)] → W p l e (headSpec wsX6_at rm_X6_at).room s m args below meth c H locs 0 0 Q (F0 m 0 ls []) := by
    intro H locs hP hD hS ls hl
    refine lv_aload_n hx hb dX6_at_0 rfl (lv_at hl 0 rfl) ?_
    refine lv_iload_n hx hb dX6_at_1 rfl (lv_at hl 1 rfl) ?_
    obtain ⟨r4, hr4, hf⟩ := ob_bind hf
    have hFc := va_free (wc := ce_X6 G.2.1 a0 S0) hD hS hA [0, 1, 2, 3, 4, 5, 6, 7, 8, 9] rfl
    refine zc_ro (va_runV (As := [.int p1]) (rest := []) ⟨hx, hb, hml, hown, hts⟩ (c_X6_isEngine l G a0 H.size S0 p1 _ hr4) (cwV 1 hts gX6_at_X6_isEngine rfl rfl rfl (by decide +kernel) ⟨Nat.le_of_ble_eq_true rfl, Nat.le_of_ble_eq_true rfl⟩) ⟨PcM.blind, va_recv hK hP (ci := 6) (q0 := 0) rfl rfl, PcM.ok hP hD hK hE hS hFc⟩ rfl rfl hl.1 rfl (lv_room (Nat.le_of_ble_eq_true rfl)) dX6_at_2 ⟨Nat.le_refl _, Nat.le_refl _⟩) hP hD hS hA [0, 1, 2, 3, 4, 5, 6, 7, 8, 9] rfl (fun H locs hP hS => ?_)
    refine lv_if_eq (tgt := 19) hx hb dX6_at_5 (by decide) (fun c5 => ?_) (fun c5 => ?_)
    · replace hf := ob_pos c5 hf
      refine lv_iconst (v := (-1)) hx hb dX6_at_19 (by decide) ?_
      exact blk20 _ _ _ _ hf _ _ hP hD hS _ (lv_sub hl [0, 1, 2] rfl)
    · replace hf := ob_neg c5 hf
      refine lv_iload_n hx hb dX6_at_8 rfl (lv_at hl 2 rfl) ?_
      refine lv_iconst (v := 0) hx hb dX6_at_9 (by decide) ?_
      refine lv_sipush (v := 1100) hx hb dX6_at_10 (by decide) ?_
      obtain ⟨r6, hr6, hf⟩ := ob_bind hf
      have hPc : va_P G.1 vwCl (([] : va_W)) H := hP.sub [] rfl
      have hDc : va_D A (([] : va_W)) := hD.sub [] (by decide) rfl
      have hFc := va_free (wc := ([] : va_W)) hD hS hA [] rfl
      refine zc_ro (va_runS (As := [.int p2, .int 0, .int 1100]) (rest := []) ⟨hx, hb, hml, hown, hts⟩ (c_X6_within l G H.size p2 0 1100 _ hr6) (va_cwS 3 hts gX6_at_X6_within rfl rfl rfl (by decide +kernel) ⟨Nat.le_of_ble_eq_true rfl, Nat.le_of_ble_eq_true rfl⟩) ⟨PcM.blind, PcM.ok hPc hDc hK hE hS hFc⟩ rfl rfl hl.1 rfl (lv_room (Nat.le_of_ble_eq_true rfl)) dX6_at_13 ⟨Nat.le_refl _, Nat.le_refl _⟩) hP hD hS hA [] rfl (fun H locs hP hS => ?_)
      refine lv_goto (tgt := 20) hx hb dX6_at_16 (by decide) ?_
      exact blk20 _ _ _ _ hf _ _ hP hD hS _ (lv_sub hl [0, 1, 2] rfl)
  exact go _ _ hP hD hS _ hl
abbrev rm_X6_isPlace : Room := { frames := 2, cells := 0, slots := 0, locals := 45 }
set_option maxHeartbeats 4000000 in
set_option maxRecDepth 100000 in
theorem c_X6_isPlace (l : Launch) (G : zG) (sz : Nat) (p0 : Int32) (out : Int32) (hf : f_X6_isPlace p0 = some out) : Met l yX6_isPlace wsX6_isPlace rm_X6_isPlace (PcM G (([] : va_W)) [.int p0] sz) (QRo G (([] : va_W)) out (va_A (([] : va_W)) sz)) 0 0 (va_A (([] : va_W)) sz) := by
  rw [f_X6_isPlace] at hf
  refine Met.ofW (cc := cX6_isPlace) (maxL := 1) (ret := (some .boolean)) (by decide) rfl ?_
  intro p e s m args below meth c s₁ B hml hv
  obtain ⟨hargs, hsz, hP, hK, hD0, hE⟩ := hv
  have hx := B.exec
  have hb := B.bytes
  have hr := B.returns
  have hts := atoms_spec (ws := wsX6_isPlace) B.pre
  have hown : s.vm.findClass RX6 = some m.cls := findClass_of_methodNamed B.named
  have hlocks := B.notSynchronized
  subst hsz
  have hD := hD0.self (sz := s.heap.size)
  generalize hAe : va_A (([] : va_W)) s.heap.size = A at hD hE ⊢
  have hA : ∀ q : Nat, s.heap.size ≤ q → A q := fun q h => by rw [← hAe]; exact Or.inr h
  have hS : va_S A s.heap s.heap [] := va_S.rf
  have hl := lv_entry ([.int p0]) (n := 1) (Nat.le_of_ble_eq_true rfl)
  have hent : entryFrame m args 1 = F0 m 0 ((lg_sl ([.int p0]) ++ List.replicate (1 - (lg_sl ([.int p0])).length) Slot.unset).toArray) [] := by rw [hargs, lg_entry_eq]
  rw [hent]
  clear hent
  generalize (lg_sl ([.int p0]) ++ List.replicate (1 - (lg_sl ([.int p0])).length) Slot.unset).toArray = ls at hl ⊢
  have hl : lv_has ls 1 [(0, .int p0)] := hl
  have fin : ∀ (pc : Nat) (v : Int32) (H : Heap) (locs : List Loc) (ls : Array Slot), some v = some out → narrow .boolean (.int v) = .int v → va_P G.1 vwCl (([] : va_W)) H → va_D A (([] : va_W)) → va_S A s.heap H locs → decode cX6_isPlace pc = .ok (.ireturn, 1) → W p l e (headSpec wsX6_isPlace rm_X6_isPlace).room s m args below meth c H locs 0 0 (MQ below (QRo G (([] : va_W)) out A) args s 0 0 A) (F0 m pc ls [.int v]) := fun pc v H locs ls ho hn hP hD hS hd => W.zret (v := v) hx hb hr hn (fun t ht hW => ⟨⟨v, (), rfl, Option.some.inj ho, by first | (rw [ht]; exact hP) | (dsimp only; rw [ht]; exact hP)⟩, hS.F ht⟩) hS.2.2 hd
  generalize MQ below (QRo G (([] : va_W)) out A) args s 0 0 A = Q at fin ⊢
  have go : ∀ (H : Heap) (locs : List Loc), va_P G.1 vwCl (([] : va_W)) H → va_D A (([] : va_W)) → va_S A s.heap H locs → ∀ (ls : Array Slot), lv_has ls 1 [(0, .int p0)] → W p l e (headSpec wsX6_isPlace rm_X6_isPlace).room s m args below meth c H locs 0 0 Q (F0 m 0 ls []) := by
    intro H locs hP hD hS ls hl
    refine lv_iload_n hx hb dX6_isPlace_0 rfl (lv_at hl 0 rfl) ?_
    refine lv_iconst (v := 5) hx hb dX6_isPlace_1 (by decide) ?_
    obtain ⟨r1, hr1, hf⟩ := ob_bind hf
    have hFc := va_free (wc := ([] : va_W)) hD hS hA [] rfl
    refine zc_ro (va_runS (As := [.int p0, .int 5]) (rest := []) ⟨hx, hb, hml, hown, hts⟩ (c_X6_isIn l G H.size p0 5 _ hr1) (va_cwS 2 hts gX6_isPlace_X6_isIn rfl rfl rfl (by decide +kernel) ⟨Nat.le_of_ble_eq_true rfl, Nat.le_of_ble_eq_true rfl⟩) ⟨PcM.blind, PcM.ok hP hD hK hE hS hFc⟩ rfl rfl hl.1 rfl (lv_room (Nat.le_of_ble_eq_true rfl)) dX6_isPlace_2 ⟨Nat.le_refl _, Nat.le_refl _⟩) hP hD hS hA [] rfl (fun H locs hP hS => ?_)
    obtain ⟨hg2, hf⟩ := ob_guard hf
    exact fin _ _ _ _ _ hf (congrArg Value.int hg2) hP hD hS dX6_isPlace_5
  exact go _ _ hP hD hS _ hl
abbrev rm_X6_pass : Room := { frames := 5, cells := 0, slots := 0, locals := 116 }
set_option maxHeartbeats 4000000 in
set_option maxRecDepth 100000 in
theorem c_X6_pass (l : Launch) (G : zG) (a0 : AT_X6) (sz : Nat) (S0 : ST_X6) (p1 : Int32) (p2 : Int32) (out : Int32 × ST_X6) (hf : f_X6_pass S0 p1 p2 = some out) : Met l yX6_pass wsX6_pass rm_X6_pass (PcM G (ce_X6 G.2.1 a0 S0) [.ref a0.1, .int p1, .int p2] sz) (QWr G (fun u => ce_X6 G.2.1 a0 u) out (va_A (ce_X6 G.2.1 a0 S0) sz)) 0 0 (va_A (ce_X6 G.2.1 a0 S0) sz) := by
  rw [f_X6_pass] at hf
  refine Met.ofW (cc := cX6_pass) (maxL := 4) (ret := (some .int)) (by decide) rfl ?_
  intro p e s m args below meth c s₁ B hml hv
  obtain ⟨hargs, hsz, hP, hK, hD0, hE⟩ := hv
  have hx := B.exec
  have hb := B.bytes
  have hr := B.returns
  have hts := atoms_spec (ws := wsX6_pass) B.pre
  have hown : s.vm.findClass RX6 = some m.cls := findClass_of_methodNamed B.named
  have hlocks := B.notSynchronized
  subst hsz
  have hD := hD0.self (sz := s.heap.size)
  generalize hAe : va_A (ce_X6 G.2.1 a0 S0) s.heap.size = A at hD hE ⊢
  have hA : ∀ q : Nat, s.heap.size ≤ q → A q := fun q h => by rw [← hAe]; exact Or.inr h
  have hS : va_S A s.heap s.heap [] := va_S.rf
  have hl := lv_entry ([.ref a0.1, .int p1, .int p2]) (n := 4) (Nat.le_of_ble_eq_true rfl)
  have hent : entryFrame m args 4 = F0 m 0 ((lg_sl ([.ref a0.1, .int p1, .int p2]) ++ List.replicate (4 - (lg_sl ([.ref a0.1, .int p1, .int p2])).length) Slot.unset).toArray) [] := by rw [hargs, lg_entry_eq]
  rw [hent]
  clear hent
  generalize (lg_sl ([.ref a0.1, .int p1, .int p2]) ++ List.replicate (4 - (lg_sl ([.ref a0.1, .int p1, .int p2])).length) Slot.unset).toArray = ls at hl ⊢
  have hl : lv_has ls 4 [(0, .ref a0.1), (1, .int p1), (2, .int p2)] := hl
  have fin : ∀ (pc : Nat) (v : Int32) (u : ST_X6) (H : Heap) (locs : List Loc) (ls : Array Slot), some (v, u) = some out → va_P G.1 vwCl (ce_X6 G.2.1 a0 u) H → va_D A (ce_X6 G.2.1 a0 u) → va_S A s.heap H locs → decode cX6_pass pc = .ok (.ireturn, 1) → W p l e (headSpec wsX6_pass rm_X6_pass).room s m args below meth c H locs 0 0 (MQ below (QWr G (fun u => ce_X6 G.2.1 a0 u) out A) args s 0 0 A) (F0 m pc ls [.int v]) := fun pc v u H locs ls ho hP hD hS hd => W.iret (v := v) hx hb hr (fun t ht hW => ⟨⟨v, u, rfl, ob_pair ho, by first | (rw [ht]; exact hP) | (dsimp only; rw [ht]; exact hP), hD⟩, hS.F ht⟩) hS.2.2 hd
  generalize MQ below (QWr G (fun u => ce_X6 G.2.1 a0 u) out A) args s 0 0 A = Q at fin ⊢
  have blk19 : ∀ (S0 : ST_X6) (v1 : Int32) (v2 : Int32) (w0 : Int32), f_X6_pass_b19 S0 v1 v2 w0 = some out → ∀ (H : Heap) (locs : List Loc), va_P G.1 vwCl (ce_X6 G.2.1 a0 S0) H → va_D A (ce_X6 G.2.1 a0 S0) → va_S A s.heap H locs → ∀ (ls : Array Slot), lv_has ls 4 [(0, .ref a0.1), (1, .int v1), (2, .int v2)] → W p l e (headSpec wsX6_pass rm_X6_pass).room s m args below meth c H locs 0 0 Q (F0 m 19 ls [.int w0]) := by
    intro S0 v1 v2 w0 hf H locs hP hD hS ls hl
    rw [f_X6_pass_b19] at hf
    refine lv_istore_n (lv' := [(3, .int w0), (0, .ref a0.1), (1, .int v1), (2, .int v2)]) hx hb dX6_pass_19 rfl hl (by decide) rfl (fun ls hl => ?_)
    refine lv_iload_n hx hb dX6_pass_20 rfl (lv_at hl 0 rfl) ?_
    refine lv_if_eq (tgt := 32) hx hb dX6_pass_21 (by decide) (fun c1 => ?_) (fun c1 => ?_)
    · replace hf := ob_pos c1 hf
      refine lv_aload_n hx hb dX6_pass_32 rfl (lv_at hl 1 rfl) ?_
      refine lv_iload_n hx hb dX6_pass_33 rfl (lv_at hl 2 rfl) ?_
      refine lv_iload_n hx hb dX6_pass_34 rfl (lv_at hl 3 rfl) ?_
      obtain ⟨r2, hr2, hf⟩ := ob_bind hf
      have hFc := va_free (wc := ce_X6 G.2.1 a0 S0) hD hS hA [0, 1, 2, 3, 4, 5, 6, 7, 8, 9] rfl
      refine zc_ro (va_runV (As := [.int v1, .int v2]) (rest := []) ⟨hx, hb, hml, hown, hts⟩ (c_X6_passes l G a0 H.size S0 v1 v2 _ hr2) (cwV 2 hts gX6_pass_X6_passes rfl rfl rfl (by decide +kernel) ⟨Nat.le_of_ble_eq_true rfl, Nat.le_of_ble_eq_true rfl⟩) ⟨PcM.blind, va_recv hK hP (ci := 6) (q0 := 0) rfl rfl, PcM.ok hP hD hK hE hS hFc⟩ rfl rfl hl.1 rfl (lv_room (Nat.le_of_ble_eq_true rfl)) dX6_pass_35 ⟨Nat.le_refl _, Nat.le_refl _⟩) hP hD hS hA [0, 1, 2, 3, 4, 5, 6, 7, 8, 9] rfl (fun H locs hP hS => ?_)
      exact fin _ _ _ _ _ _ hf hP hD hS dX6_pass_38
    · replace hf := ob_neg c1 hf
      refine lv_aload_n hx hb dX6_pass_24 rfl (lv_at hl 1 rfl) ?_
      refine lv_iload_n hx hb dX6_pass_25 rfl (lv_at hl 0 rfl) ?_
      obtain ⟨r3, hr3, hf⟩ := ob_bind hf
      have hFc := va_free (wc := ce_X6 G.2.1 a0 S0) hD hS hA [0, 1, 2, 3, 4, 5, 6, 7, 8, 9] rfl
      refine zc_wr (cf := (fun u => ce_X6 G.2.1 a0 u)) (ws' := ce_X6 G.2.1 a0 r3.2) (va_runV (As := [.int w0]) (rest := []) ⟨hx, hb, hml, hown, hts⟩ (c_X6_refuse l G a0 H.size S0 w0 _ hr3) (cwV 1 hts gX6_pass_X6_refuse rfl rfl rfl (by decide +kernel) ⟨Nat.le_of_ble_eq_true rfl, Nat.le_of_ble_eq_true rfl⟩) ⟨PcM.blind, va_recv hK hP (ci := 6) (q0 := 0) rfl rfl, PcM.ok hP hD hK hE hS hFc⟩ rfl rfl hl.1 rfl (lv_room (Nat.le_of_ble_eq_true rfl)) dX6_pass_26 ⟨Nat.le_refl _, Nat.le_refl _⟩) hP hD hS hA [0, 1, 2, 3, 4, 5, 6, 7, 8, 9] [] [0, 1, 2, 3, 4, 5, 6, 7, 8, 9] rfl rfl (by decide) (by decide) (by decide) rfl (fun H locs hP hD hS => ?_)
      refine lv_goto (tgt := 38) hx hb dX6_pass_29 (by decide) ?_
      exact fin _ _ _ _ _ _ hf hP hD hS dX6_pass_38
  have go : ∀ (H : Heap) (locs : List Loc), va_P G.1 vwCl (ce_X6 G.2.1 a0 S0) H → va_D A (ce_X6 G.2.1 a0 S0) → va_S A s.heap H locs → ∀ (ls : Array Slot), lv_has ls 4 [(0, .ref a0.1), (1, .int p1), (2, .int p2)] → W p l e (headSpec wsX6_pass rm_X6_pass).room s m args below meth c H locs 0 0 Q (F0 m 0 ls []) := by
    intro H locs hP hD hS ls hl
    refine lv_iload_n hx hb dX6_pass_0 rfl (lv_at hl 1 rfl) ?_
    obtain ⟨r4, hr4, hf⟩ := ob_bind hf
    have hPc : va_P G.1 vwCl (([] : va_W)) H := hP.sub [] rfl
    have hDc : va_D A (([] : va_W)) := hD.sub [] (by decide) rfl
    have hFc := va_free (wc := ([] : va_W)) hD hS hA [] rfl
    refine zc_ro (va_runS (As := [.int p1]) (rest := []) ⟨hx, hb, hml, hown, hts⟩ (c_X6_isPlace l G H.size p1 _ hr4) (va_cwS 1 hts gX6_pass_X6_isPlace rfl rfl rfl (by decide +kernel) ⟨Nat.le_of_ble_eq_true rfl, Nat.le_of_ble_eq_true rfl⟩) ⟨PcM.blind, PcM.ok hPc hDc hK hE hS hFc⟩ rfl rfl hl.1 rfl (lv_room (Nat.le_of_ble_eq_true rfl)) dX6_pass_1 ⟨Nat.le_refl _, Nat.le_refl _⟩) hP hD hS hA [] rfl (fun H locs hP hS => ?_)
    refine lv_if_eq (tgt := 18) hx hb dX6_pass_4 (by decide) (fun c5 => ?_) (fun c5 => ?_)
    · replace hf := ob_pos c5 hf
      refine lv_iconst (v := (-1)) hx hb dX6_pass_18 (by decide) ?_
      exact blk19 _ _ _ _ hf _ _ hP hD hS _ (lv_sub hl [0, 1, 2] rfl)
    · replace hf := ob_neg c5 hf
      refine lv_iload_n hx hb dX6_pass_7 rfl (lv_at hl 2 rfl) ?_
      refine lv_iconst (v := 0) hx hb dX6_pass_8 (by decide) ?_
      refine lv_sipush (v := 1100) hx hb dX6_pass_9 (by decide) ?_
      obtain ⟨r6, hr6, hf⟩ := ob_bind hf
      have hPc : va_P G.1 vwCl (([] : va_W)) H := hP.sub [] rfl
      have hDc : va_D A (([] : va_W)) := hD.sub [] (by decide) rfl
      have hFc := va_free (wc := ([] : va_W)) hD hS hA [] rfl
      refine zc_ro (va_runS (As := [.int p2, .int 0, .int 1100]) (rest := []) ⟨hx, hb, hml, hown, hts⟩ (c_X6_within l G H.size p2 0 1100 _ hr6) (va_cwS 3 hts gX6_pass_X6_within rfl rfl rfl (by decide +kernel) ⟨Nat.le_of_ble_eq_true rfl, Nat.le_of_ble_eq_true rfl⟩) ⟨PcM.blind, PcM.ok hPc hDc hK hE hS hFc⟩ rfl rfl hl.1 rfl (lv_room (Nat.le_of_ble_eq_true rfl)) dX6_pass_12 ⟨Nat.le_refl _, Nat.le_refl _⟩) hP hD hS hA [] rfl (fun H locs hP hS => ?_)
      refine lv_goto (tgt := 19) hx hb dX6_pass_15 (by decide) ?_
      exact blk19 _ _ _ _ hf _ _ hP hD hS _ (lv_sub hl [0, 1, 2] rfl)
  exact go _ _ hP hD hS _ hl
abbrev rm_X6_stands : Room := { frames := 6, cells := 0, slots := 0, locals := 134 }
set_option maxHeartbeats 4000000 in
set_option maxRecDepth 100000 in
theorem c_X6_stands (l : Launch) (G : zG) (a0 : AT_X6) (sz : Nat) (S0 : ST_X6) (p1 : Int32) (p2 : Int32) (out : Int32 × ST_X6) (hf : f_X6_stands S0 p1 p2 = some out) : Met l yX6_stands wsX6_stands rm_X6_stands (PcM G (ce_X6 G.2.1 a0 S0) [.ref a0.1, .int p1, .int p2] sz) (QWr G (fun u => ce_X6 G.2.1 a0 u) out (va_A (ce_X6 G.2.1 a0 S0) sz)) 0 0 (va_A (ce_X6 G.2.1 a0 S0) sz) := by
  rw [f_X6_stands] at hf
  refine Met.ofW (cc := cX6_stands) (maxL := 5) (ret := (some .int)) (by decide) rfl ?_
  intro p e s m args below meth c s₁ B hml hv
  obtain ⟨hargs, hsz, hP, hK, hD0, hE⟩ := hv
  have hx := B.exec
  have hb := B.bytes
  have hr := B.returns
  have hts := atoms_spec (ws := wsX6_stands) B.pre
  have hown : s.vm.findClass RX6 = some m.cls := findClass_of_methodNamed B.named
  have hlocks := B.notSynchronized
  subst hsz
  have hD := hD0.self (sz := s.heap.size)
  generalize hAe : va_A (ce_X6 G.2.1 a0 S0) s.heap.size = A at hD hE ⊢
  have hA : ∀ q : Nat, s.heap.size ≤ q → A q := fun q h => by rw [← hAe]; exact Or.inr h
  have hS : va_S A s.heap s.heap [] := va_S.rf
  have hl := lv_entry ([.ref a0.1, .int p1, .int p2]) (n := 5) (Nat.le_of_ble_eq_true rfl)
  have hent : entryFrame m args 5 = F0 m 0 ((lg_sl ([.ref a0.1, .int p1, .int p2]) ++ List.replicate (5 - (lg_sl ([.ref a0.1, .int p1, .int p2])).length) Slot.unset).toArray) [] := by rw [hargs, lg_entry_eq]
  rw [hent]
  clear hent
  generalize (lg_sl ([.ref a0.1, .int p1, .int p2]) ++ List.replicate (5 - (lg_sl ([.ref a0.1, .int p1, .int p2])).length) Slot.unset).toArray = ls at hl ⊢
  have hl : lv_has ls 5 [(0, .ref a0.1), (1, .int p1), (2, .int p2)] := hl
  have lk0 := hts (Cond.fieldLink RX6 13 "EnginesOnListModel" "s" "[I") (List.mem_of_getElem? (i := 1) rfl)
  have hinX6 : ∀ w ∈ wsX60, w ∈ wsX6_stands := by decide +kernel
  have fin : ∀ (pc : Nat) (v : Int32) (u : ST_X6) (H : Heap) (locs : List Loc) (ls : Array Slot), some (v, u) = some out → va_P G.1 vwCl (ce_X6 G.2.1 a0 u) H → va_D A (ce_X6 G.2.1 a0 u) → va_S A s.heap H locs → decode cX6_stands pc = .ok (.ireturn, 1) → W p l e (headSpec wsX6_stands rm_X6_stands).room s m args below meth c H locs 0 0 (MQ below (QWr G (fun u => ce_X6 G.2.1 a0 u) out A) args s 0 0 A) (F0 m pc ls [.int v]) := fun pc v u H locs ls ho hP hD hS hd => W.iret (v := v) hx hb hr (fun t ht hW => ⟨⟨v, u, rfl, ob_pair ho, by first | (rw [ht]; exact hP) | (dsimp only; rw [ht]; exact hP), hD⟩, hS.F ht⟩) hS.2.2 hd
  generalize MQ below (QWr G (fun u => ce_X6 G.2.1 a0 u) out A) args s 0 0 A = Q at fin ⊢
  have go : ∀ (H : Heap) (locs : List Loc), va_P G.1 vwCl (ce_X6 G.2.1 a0 S0) H → va_D A (ce_X6 G.2.1 a0 S0) → va_S A s.heap H locs → ∀ (ls : Array Slot), lv_has ls 5 [(0, .ref a0.1), (1, .int p1), (2, .int p2)] → W p l e (headSpec wsX6_stands rm_X6_stands).room s m args below meth c H locs 0 0 Q (F0 m 0 ls []) := by
    intro H locs hP hD hS ls hl
    refine lv_aload_n hx hb dX6_stands_0 rfl (lv_at hl 0 rfl) ?_
    refine lv_iload_n hx hb dX6_stands_1 rfl (lv_at hl 1 rfl) ?_
    refine lv_iload_n hx hb dX6_stands_2 rfl (lv_at hl 2 rfl) ?_
    obtain ⟨r1, hr1, hf⟩ := ob_bind hf
    have hFc := va_free (wc := ce_X6 G.2.1 a0 S0) hD hS hA [0, 1, 2, 3, 4, 5, 6, 7, 8, 9] rfl
    refine zc_ro (va_runV (As := [.int p1, .int p2]) (rest := []) ⟨hx, hb, hml, hown, hts⟩ (c_X6_passes l G a0 H.size S0 p1 p2 _ hr1) (cwV 2 hts gX6_stands_X6_passes rfl rfl rfl (by decide +kernel) ⟨Nat.le_of_ble_eq_true rfl, Nat.le_of_ble_eq_true rfl⟩) ⟨PcM.blind, va_recv hK hP (ci := 6) (q0 := 0) rfl rfl, PcM.ok hP hD hK hE hS hFc⟩ rfl rfl hl.1 rfl (lv_room (Nat.le_of_ble_eq_true rfl)) dX6_stands_3 ⟨Nat.le_refl _, Nat.le_refl _⟩) hP hD hS hA [0, 1, 2, 3, 4, 5, 6, 7, 8, 9] rfl (fun H locs hP hS => ?_)
    refine lv_istore_n (lv' := [(3, .int r1), (0, .ref a0.1), (1, .int p1), (2, .int p2)]) hx hb dX6_stands_6 rfl hl (by decide) rfl (fun ls hl => ?_)
    refine lv_aload_n hx hb dX6_stands_7 rfl (lv_at hl 1 rfl) ?_
    refine lv_iload_n hx hb dX6_stands_8 rfl (lv_at hl 0 rfl) ?_
    obtain ⟨r2, hr2, hf⟩ := ob_bind hf
    have hFc := va_free (wc := ce_X6 G.2.1 a0 S0) hD hS hA [0, 1, 2, 3, 4, 5, 6, 7, 8, 9] rfl
    refine zc_ro (va_runV (As := [.int r1]) (rest := []) ⟨hx, hb, hml, hown, hts⟩ (c_X6_newOf l G a0 H.size S0 r1 _ hr2) (cwV 1 hts gX6_stands_X6_newOf rfl rfl rfl (by decide +kernel) ⟨Nat.le_of_ble_eq_true rfl, Nat.le_of_ble_eq_true rfl⟩) ⟨PcM.blind, va_recv hK hP (ci := 6) (q0 := 0) rfl rfl, PcM.ok hP hD hK hE hS hFc⟩ rfl rfl hl.1 rfl (lv_room (Nat.le_of_ble_eq_true rfl)) dX6_stands_9 ⟨Nat.le_refl _, Nat.le_refl _⟩) hP hD hS hA [0, 1, 2, 3, 4, 5, 6, 7, 8, 9] rfl (fun H locs hP hS => ?_)
    refine lv_istore (lv' := [(4, .int r2), (3, .int r1), (0, .ref a0.1), (1, .int p1), (2, .int p2)]) hx hb dX6_stands_12 hl (by decide) rfl (fun ls hl => ?_)
    refine lv_aload_n hx hb dX6_stands_14 rfl (lv_at hl 2 rfl) ?_
    refine va_get (D := G.1) (ci := 6) (v := .ref a0.2.2.1) (C := RX6) (T := TX6) (N := 14) hx hb hts hinX6 hown hK hP 0 rfl rfl 1 (by decide) lk0 (fun _ h9 => h9) rfl dX6_stands_15 ?_
    refine lv_iconst (v := 2) hx hb dX6_stands_18 (by decide) ?_
    refine lv_dup2_11 hx hb dX6_stands_19 rfl rfl ?_
    refine va_iald hx hb hK hP 2 0 rfl rfl (by decide : inB 2 130) dX6_stands_20 ?_
    refine zl_top (y := S0.2.1 2) rfl ?_
    refine lv_iload_n hx hb dX6_stands_21 rfl (lv_at hl 1 rfl) ?_
    refine lv_ior hx hb dX6_stands_22 ?_
    refine va_iast hx hb hK hP hD hS 2 0 rfl rfl (by decide : inB 2 130) dX6_stands_23 (fun H locs hP hD hS => ?_)
    have hP : va_P G.1 vwCl (ce_X6 G.2.1 a0 (S0.1, (upd S0.2.1 2 ((S0.2.1 2) ||| r1)), S0.2.2.1, S0.2.2.2.1, S0.2.2.2.2.1, S0.2.2.2.2.2.1, S0.2.2.2.2.2.2.1, S0.2.2.2.2.2.2.2.1, S0.2.2.2.2.2.2.2.2.1, S0.2.2.2.2.2.2.2.2.2.1, S0.2.2.2.2.2.2.2.2.2.2.1, S0.2.2.2.2.2.2.2.2.2.2.2.1, S0.2.2.2.2.2.2.2.2.2.2.2.2.1, S0.2.2.2.2.2.2.2.2.2.2.2.2.2)) H := hP
    have hD : va_D A (ce_X6 G.2.1 a0 (S0.1, (upd S0.2.1 2 ((S0.2.1 2) ||| r1)), S0.2.2.1, S0.2.2.2.1, S0.2.2.2.2.1, S0.2.2.2.2.2.1, S0.2.2.2.2.2.2.1, S0.2.2.2.2.2.2.2.1, S0.2.2.2.2.2.2.2.2.1, S0.2.2.2.2.2.2.2.2.2.1, S0.2.2.2.2.2.2.2.2.2.2.1, S0.2.2.2.2.2.2.2.2.2.2.2.1, S0.2.2.2.2.2.2.2.2.2.2.2.2.1, S0.2.2.2.2.2.2.2.2.2.2.2.2.2)) := hD
    refine lv_iload hx hb dX6_stands_24 (lv_at hl 0 rfl) ?_
    exact fin _ _ _ _ _ _ hf hP hD hS dX6_stands_26
  exact go _ _ hP hD hS _ hl
abbrev rm_X6_stand : Room := { frames := 7, cells := 0, slots := 0, locals := 158 }
set_option maxHeartbeats 4000000 in
set_option maxRecDepth 100000 in
theorem c_X6_stand (l : Launch) (G : zG) (a0 : AT_X6) (sz : Nat) (S0 : ST_X6) (p1 : Int32) (out : Int32 × ST_X6) (hf : f_X6_stand S0 p1 = some out) : Met l yX6_stand wsX6_stand rm_X6_stand (PcM G (ce_X6 G.2.1 a0 S0) [.ref a0.1, .int p1] sz) (QWr G (fun u => ce_X6 G.2.1 a0 u) out (va_A (ce_X6 G.2.1 a0 S0) sz)) 0 0 (va_A (ce_X6 G.2.1 a0 S0) sz) := by
  rw [f_X6_stand] at hf
  refine Met.ofW (cc := cX6_stand) (maxL := 4) (ret := (some .int)) (by decide) rfl ?_
  intro p e s m args below meth c s₁ B hml hv
  obtain ⟨hargs, hsz, hP, hK, hD0, hE⟩ := hv
  have hx := B.exec
  have hb := B.bytes
  have hr := B.returns
  have hts := atoms_spec (ws := wsX6_stand) B.pre
  have hown : s.vm.findClass RX6 = some m.cls := findClass_of_methodNamed B.named
  have hlocks := B.notSynchronized
  subst hsz
  have hD := hD0.self (sz := s.heap.size)
  generalize hAe : va_A (ce_X6 G.2.1 a0 S0) s.heap.size = A at hD hE ⊢
  have hA : ∀ q : Nat, s.heap.size ≤ q → A q := fun q h => by rw [← hAe]; exact Or.inr h
  have hS : va_S A s.heap s.heap [] := va_S.rf
  have hl := lv_entry ([.ref a0.1, .int p1]) (n := 4) (Nat.le_of_ble_eq_true rfl)
  have hent : entryFrame m args 4 = F0 m 0 ((lg_sl ([.ref a0.1, .int p1]) ++ List.replicate (4 - (lg_sl ([.ref a0.1, .int p1])).length) Slot.unset).toArray) [] := by rw [hargs, lg_entry_eq]
  rw [hent]
  clear hent
  generalize (lg_sl ([.ref a0.1, .int p1]) ++ List.replicate (4 - (lg_sl ([.ref a0.1, .int p1])).length) Slot.unset).toArray = ls at hl ⊢
  have hl : lv_has ls 4 [(0, .ref a0.1), (1, .int p1)] := hl
  have lk0 := hts (Cond.fieldLink RX6 13 "EnginesOnListModel" "s" "[I") (List.mem_of_getElem? (i := 1) rfl)
  have hinX6 : ∀ w ∈ wsX60, w ∈ wsX6_stand := by decide +kernel
  have fin : ∀ (pc : Nat) (v : Int32) (u : ST_X6) (H : Heap) (locs : List Loc) (ls : Array Slot), some (v, u) = some out → va_P G.1 vwCl (ce_X6 G.2.1 a0 u) H → va_D A (ce_X6 G.2.1 a0 u) → va_S A s.heap H locs → decode cX6_stand pc = .ok (.ireturn, 1) → W p l e (headSpec wsX6_stand rm_X6_stand).room s m args below meth c H locs 0 0 (MQ below (QWr G (fun u => ce_X6 G.2.1 a0 u) out A) args s 0 0 A) (F0 m pc ls [.int v]) := fun pc v u H locs ls ho hP hD hS hd => W.iret (v := v) hx hb hr (fun t ht hW => ⟨⟨v, u, rfl, ob_pair ho, by first | (rw [ht]; exact hP) | (dsimp only; rw [ht]; exact hP), hD⟩, hS.F ht⟩) hS.2.2 hd
  generalize MQ below (QWr G (fun u => ce_X6 G.2.1 a0 u) out A) args s 0 0 A = Q at fin ⊢
  have blk29 : ∀ (S0 : ST_X6) (v1 : Int32) (w0 : Int32), f_X6_stand_b29 S0 v1 w0 = some out → ∀ (H : Heap) (locs : List Loc), va_P G.1 vwCl (ce_X6 G.2.1 a0 S0) H → va_D A (ce_X6 G.2.1 a0 S0) → va_S A s.heap H locs → ∀ (ls : Array Slot), lv_has ls 4 [(0, .ref a0.1), (1, .int v1)] → W p l e (headSpec wsX6_stand rm_X6_stand).room s m args below meth c H locs 0 0 Q (F0 m 29 ls [.int w0]) := by
    intro S0 v1 w0 hf H locs hP hD hS ls hl
    rw [f_X6_stand_b29] at hf
    refine lv_istore_n (lv' := [(2, .int w0), (0, .ref a0.1), (1, .int v1)]) hx hb dX6_stand_29 rfl hl (by decide) rfl (fun ls hl => ?_)
    refine lv_iload_n hx hb dX6_stand_30 rfl (lv_at hl 0 rfl) ?_
    refine lv_if_eq (tgt := 40) hx hb dX6_stand_31 (by decide) (fun c1 => ?_) (fun c1 => ?_)
    · replace hf := ob_pos c1 hf
      refine lv_aload_n hx hb dX6_stand_40 rfl (lv_at hl 1 rfl) ?_
      refine lv_iload_n hx hb dX6_stand_41 rfl (lv_at hl 2 rfl) ?_
      refine lv_aload_n hx hb dX6_stand_42 rfl (lv_at hl 1 rfl) ?_
      refine va_get (D := G.1) (ci := 6) (v := .ref a0.2.2.1) (C := RX6) (T := TX6) (N := 14) hx hb hts hinX6 hown hK hP 0 rfl rfl 1 (by decide) lk0 (fun _ h9 => h9) rfl dX6_stand_43 ?_
      refine lv_iconst (v := 1) hx hb dX6_stand_46 (by decide) ?_
      refine va_iald hx hb hK hP 2 0 rfl rfl (by decide : inB 1 130) dX6_stand_47 ?_
      refine zl_top (y := S0.2.1 1) rfl ?_
      obtain ⟨r2, hr2, hf⟩ := ob_bind hf
      have hFc := va_free (wc := ce_X6 G.2.1 a0 S0) hD hS hA [0, 1, 2, 3, 4, 5, 6, 7, 8, 9] rfl
      refine zc_wr (cf := (fun u => ce_X6 G.2.1 a0 u)) (ws' := ce_X6 G.2.1 a0 r2.2) (va_runV (As := [.int v1, .int (S0.2.1 1)]) (rest := []) ⟨hx, hb, hml, hown, hts⟩ (c_X6_stands l G a0 H.size S0 v1 (S0.2.1 1) _ hr2) (cwV 2 hts gX6_stand_X6_stands rfl rfl rfl (by decide +kernel) ⟨Nat.le_of_ble_eq_true rfl, Nat.le_of_ble_eq_true rfl⟩) ⟨PcM.blind, va_recv hK hP (ci := 6) (q0 := 0) rfl rfl, PcM.ok hP hD hK hE hS hFc⟩ rfl rfl hl.1 rfl (lv_room (Nat.le_of_ble_eq_true rfl)) dX6_stand_48 ⟨Nat.le_refl _, Nat.le_refl _⟩) hP hD hS hA [0, 1, 2, 3, 4, 5, 6, 7, 8, 9] [] [0, 1, 2, 3, 4, 5, 6, 7, 8, 9] rfl rfl (by decide) (by decide) (by decide) rfl (fun H locs hP hD hS => ?_)
      refine lv_istore_n (lv' := [(3, .int r2.1), (2, .int w0), (0, .ref a0.1), (1, .int v1)]) hx hb dX6_stand_51 rfl hl (by decide) rfl (fun ls hl => ?_)
      refine lv_aload_n hx hb dX6_stand_52 rfl (lv_at hl 2 rfl) ?_
      refine va_get (D := G.1) (ci := 6) (v := .ref a0.2.2.1) (C := RX6) (T := TX6) (N := 14) hx hb hts hinX6 hown hK hP 0 rfl rfl 1 (by decide) lk0 (fun _ h9 => h9) rfl dX6_stand_53 ?_
      refine lv_iconst (v := 1) hx hb dX6_stand_56 (by decide) ?_
      refine lv_dup2_11 hx hb dX6_stand_57 rfl rfl ?_
      refine va_iald hx hb hK hP 2 0 rfl rfl (by decide : inB 1 130) dX6_stand_58 ?_
      refine zl_top (y := r2.2.2.1 1) rfl ?_
      refine lv_iconst (v := 1) hx hb dX6_stand_59 (by decide) ?_
      refine lv_iadd hx hb dX6_stand_60 ?_
      refine va_iast hx hb hK hP hD hS 2 0 rfl rfl (by decide : inB 1 130) dX6_stand_61 (fun H locs hP hD hS => ?_)
      have hP : va_P G.1 vwCl (ce_X6 G.2.1 a0 (r2.2.1, (upd r2.2.2.1 1 ((r2.2.2.1 1) + 1)), r2.2.2.2.1, r2.2.2.2.2.1, r2.2.2.2.2.2.1, r2.2.2.2.2.2.2.1, r2.2.2.2.2.2.2.2.1, r2.2.2.2.2.2.2.2.2.1, r2.2.2.2.2.2.2.2.2.2.1, r2.2.2.2.2.2.2.2.2.2.2.1, r2.2.2.2.2.2.2.2.2.2.2.2.1, r2.2.2.2.2.2.2.2.2.2.2.2.2.1, r2.2.2.2.2.2.2.2.2.2.2.2.2.2.1, r2.2.2.2.2.2.2.2.2.2.2.2.2.2.2)) H := hP
      have hD : va_D A (ce_X6 G.2.1 a0 (r2.2.1, (upd r2.2.2.1 1 ((r2.2.2.1 1) + 1)), r2.2.2.2.1, r2.2.2.2.2.1, r2.2.2.2.2.2.1, r2.2.2.2.2.2.2.1, r2.2.2.2.2.2.2.2.1, r2.2.2.2.2.2.2.2.2.1, r2.2.2.2.2.2.2.2.2.2.1, r2.2.2.2.2.2.2.2.2.2.2.1, r2.2.2.2.2.2.2.2.2.2.2.2.1, r2.2.2.2.2.2.2.2.2.2.2.2.2.1, r2.2.2.2.2.2.2.2.2.2.2.2.2.2.1, r2.2.2.2.2.2.2.2.2.2.2.2.2.2.2)) := hD
      refine lv_iload_n hx hb dX6_stand_62 rfl (lv_at hl 0 rfl) ?_
      exact fin _ _ _ _ _ _ hf hP hD hS dX6_stand_63
    · replace hf := ob_neg c1 hf
      refine lv_aload_n hx hb dX6_stand_34 rfl (lv_at hl 1 rfl) ?_
      refine lv_iload_n hx hb dX6_stand_35 rfl (lv_at hl 0 rfl) ?_
      obtain ⟨r3, hr3, hf⟩ := ob_bind hf
      have hFc := va_free (wc := ce_X6 G.2.1 a0 S0) hD hS hA [0, 1, 2, 3, 4, 5, 6, 7, 8, 9] rfl
      refine zc_wr (cf := (fun u => ce_X6 G.2.1 a0 u)) (ws' := ce_X6 G.2.1 a0 r3.2) (va_runV (As := [.int w0]) (rest := []) ⟨hx, hb, hml, hown, hts⟩ (c_X6_refuse l G a0 H.size S0 w0 _ hr3) (cwV 1 hts gX6_stand_X6_refuse rfl rfl rfl (by decide +kernel) ⟨Nat.le_of_ble_eq_true rfl, Nat.le_of_ble_eq_true rfl⟩) ⟨PcM.blind, va_recv hK hP (ci := 6) (q0 := 0) rfl rfl, PcM.ok hP hD hK hE hS hFc⟩ rfl rfl hl.1 rfl (lv_room (Nat.le_of_ble_eq_true rfl)) dX6_stand_36 ⟨Nat.le_refl _, Nat.le_refl _⟩) hP hD hS hA [0, 1, 2, 3, 4, 5, 6, 7, 8, 9] [] [0, 1, 2, 3, 4, 5, 6, 7, 8, 9] rfl rfl (by decide) (by decide) (by decide) rfl (fun H locs hP hD hS => ?_)
      exact fin _ _ _ _ _ _ hf hP hD hS dX6_stand_39
  have go : ∀ (H : Heap) (locs : List Loc), va_P G.1 vwCl (ce_X6 G.2.1 a0 S0) H → va_D A (ce_X6 G.2.1 a0 S0) → va_S A s.heap H locs → ∀ (ls : Array Slot), lv_has ls 4 [(0, .ref a0.1), (1, .int p1)] → W p l e (headSpec wsX6_stand rm_X6_stand).room s m args below meth c H locs 0 0 Q (F0 m 0 ls []) := by
    intro H locs hP hD hS ls hl
    refine lv_iload_n hx hb dX6_stand_0 rfl (lv_at hl 1 rfl) ?_
    obtain ⟨r4, hr4, hf⟩ := ob_bind hf
    have hPc : va_P G.1 vwCl (([] : va_W)) H := hP.sub [] rfl
    have hDc : va_D A (([] : va_W)) := hD.sub [] (by decide) rfl
    have hFc := va_free (wc := ([] : va_W)) hD hS hA [] rfl
    refine zc_ro (va_runS (As := [.int p1]) (rest := []) ⟨hx, hb, hml, hown, hts⟩ (c_X6_isPlace l G H.size p1 _ hr4) (va_cwS 1 hts gX6_stand_X6_isPlace rfl rfl rfl (by decide +kernel) ⟨Nat.le_of_ble_eq_true rfl, Nat.le_of_ble_eq_true rfl⟩) ⟨PcM.blind, PcM.ok hPc hDc hK hE hS hFc⟩ rfl rfl hl.1 rfl (lv_room (Nat.le_of_ble_eq_true rfl)) dX6_stand_1 ⟨Nat.le_refl _, Nat.le_refl _⟩) hP hD hS hA [] rfl (fun H locs hP hS => ?_)
    refine lv_if_ne (tgt := 11) hx hb dX6_stand_4 (by decide) (fun c5 => ?_) (fun c5 => ?_)
    · replace hf := ob_neg c5 hf
      refine lv_aload_n hx hb dX6_stand_11 rfl (lv_at hl 0 rfl) ?_
      refine va_get (D := G.1) (ci := 6) (v := .ref a0.2.2.1) (C := RX6) (T := TX6) (N := 14) hx hb hts hinX6 hown hK hP 0 rfl rfl 1 (by decide) lk0 (fun _ h9 => h9) rfl dX6_stand_12 ?_
      refine lv_iconst (v := 1) hx hb dX6_stand_15 (by decide) ?_
      refine va_iald hx hb hK hP 2 0 rfl rfl (by decide : inB 1 130) dX6_stand_16 ?_
      refine zl_top (y := S0.2.1 1) rfl ?_
      refine lv_sipush (v := 999) hx hb dX6_stand_17 (by decide) ?_
      refine lv_icmp_ne (tgt := 28) hx hb dX6_stand_20 (by decide) (fun c6 => ?_) (fun c6 => ?_)
      · replace hf := ob_neg c6 hf
        refine lv_iconst (v := 0) hx hb dX6_stand_28 (by decide) ?_
        exact blk29 _ _ _ hf _ _ hP hD hS _ (lv_sub hl [0, 1] rfl)
      · replace hf := ob_pos c6 hf
        refine lv_bipush (v := (-6)) hx hb dX6_stand_23 (by decide) ?_
        refine lv_goto (tgt := 29) hx hb dX6_stand_25 (by decide) ?_
        exact blk29 _ _ _ hf _ _ hP hD hS _ (lv_sub hl [0, 1] rfl)
    · replace hf := ob_pos c5 hf
      refine lv_iconst (v := (-1)) hx hb dX6_stand_7 (by decide) ?_
      refine lv_goto (tgt := 29) hx hb dX6_stand_8 (by decide) ?_
      exact blk29 _ _ _ hf _ _ hP hD hS _ (lv_sub hl [0, 1] rfl)
  exact go _ _ hP hD hS _ hl
abbrev rm_X6_rest : Room := { frames := 2, cells := 0, slots := 0, locals := 46 }
set_option maxHeartbeats 4000000 in
set_option maxRecDepth 100000 in
theorem c_X6_rest (l : Launch) (G : zG) (a0 : AT_X6) (sz : Nat) (S0 : ST_X6) (p1 : Int32) (out : Int32 × ST_X6) (hf : f_X6_rest S0 p1 = some out) : Met l yX6_rest wsX6_rest rm_X6_rest (PcM G (ce_X6 G.2.1 a0 S0) [.ref a0.1, .int p1] sz) (QWr G (fun u => ce_X6 G.2.1 a0 u) out (va_A (ce_X6 G.2.1 a0 S0) sz)) 0 0 (va_A (ce_X6 G.2.1 a0 S0) sz) := by
  rw [f_X6_rest] at hf
  refine Met.ofW (cc := cX6_rest) (maxL := 3) (ret := (some .int)) (by decide) rfl ?_
  intro p e s m args below meth c s₁ B hml hv
  obtain ⟨hargs, hsz, hP, hK, hD0, hE⟩ := hv
  have hx := B.exec
  have hb := B.bytes
  have hr := B.returns
  have hts := atoms_spec (ws := wsX6_rest) B.pre
  have hown : s.vm.findClass RX6 = some m.cls := findClass_of_methodNamed B.named
  have hlocks := B.notSynchronized
  subst hsz
  have hD := hD0.self (sz := s.heap.size)
  generalize hAe : va_A (ce_X6 G.2.1 a0 S0) s.heap.size = A at hD hE ⊢
  have hA : ∀ q : Nat, s.heap.size ≤ q → A q := fun q h => by rw [← hAe]; exact Or.inr h
  have hS : va_S A s.heap s.heap [] := va_S.rf
  have hl := lv_entry ([.ref a0.1, .int p1]) (n := 3) (Nat.le_of_ble_eq_true rfl)
  have hent : entryFrame m args 3 = F0 m 0 ((lg_sl ([.ref a0.1, .int p1]) ++ List.replicate (3 - (lg_sl ([.ref a0.1, .int p1])).length) Slot.unset).toArray) [] := by rw [hargs, lg_entry_eq]
  rw [hent]
  clear hent
  generalize (lg_sl ([.ref a0.1, .int p1]) ++ List.replicate (3 - (lg_sl ([.ref a0.1, .int p1])).length) Slot.unset).toArray = ls at hl ⊢
  have hl : lv_has ls 3 [(0, .ref a0.1), (1, .int p1)] := hl
  have lk0 := hts (Cond.fieldLink RX6 13 "EnginesOnListModel" "s" "[I") (List.mem_of_getElem? (i := 1) rfl)
  have hinX6 : ∀ w ∈ wsX60, w ∈ wsX6_rest := by decide +kernel
  have fin : ∀ (pc : Nat) (v : Int32) (u : ST_X6) (H : Heap) (locs : List Loc) (ls : Array Slot), some (v, u) = some out → va_P G.1 vwCl (ce_X6 G.2.1 a0 u) H → va_D A (ce_X6 G.2.1 a0 u) → va_S A s.heap H locs → decode cX6_rest pc = .ok (.ireturn, 1) → W p l e (headSpec wsX6_rest rm_X6_rest).room s m args below meth c H locs 0 0 (MQ below (QWr G (fun u => ce_X6 G.2.1 a0 u) out A) args s 0 0 A) (F0 m pc ls [.int v]) := fun pc v u H locs ls ho hP hD hS hd => W.iret (v := v) hx hb hr (fun t ht hW => ⟨⟨v, u, rfl, ob_pair ho, by first | (rw [ht]; exact hP) | (dsimp only; rw [ht]; exact hP), hD⟩, hS.F ht⟩) hS.2.2 hd
  generalize MQ below (QWr G (fun u => ce_X6 G.2.1 a0 u) out A) args s 0 0 A = Q at fin ⊢
  have blk29 : ∀ (S0 : ST_X6) (v1 : Int32) (v2 : Int32), f_X6_rest_b29 S0 v1 v2 = some out → ∀ (H : Heap) (locs : List Loc), va_P G.1 vwCl (ce_X6 G.2.1 a0 S0) H → va_D A (ce_X6 G.2.1 a0 S0) → va_S A s.heap H locs → ∀ (ls : Array Slot), lv_has ls 3 [(0, .ref a0.1), (1, .int v1), (2, .int v2)] → W p l e (headSpec wsX6_rest rm_X6_rest).room s m args below meth c H locs 0 0 Q (F0 m 29 ls []) := by
    intro S0 v1 v2 hf H locs hP hD hS ls hl
    rw [f_X6_rest_b29] at hf
    refine lv_iload_n hx hb dX6_rest_29 rfl (lv_at hl 2 rfl) ?_
    refine lv_if_eq (tgt := 39) hx hb dX6_rest_30 (by decide) (fun c1 => ?_) (fun c1 => ?_)
    · replace hf := ob_pos c1 hf
      refine lv_aload_n hx hb dX6_rest_39 rfl (lv_at hl 0 rfl) ?_
      refine va_get (D := G.1) (ci := 6) (v := .ref a0.2.2.1) (C := RX6) (T := TX6) (N := 14) hx hb hts hinX6 hown hK hP 0 rfl rfl 1 (by decide) lk0 (fun _ h9 => h9) rfl dX6_rest_40 ?_
      refine lv_iconst (v := 1) hx hb dX6_rest_43 (by decide) ?_
      refine lv_dup2_11 hx hb dX6_rest_44 rfl rfl ?_
      refine va_iald hx hb hK hP 2 0 rfl rfl (by decide : inB 1 130) dX6_rest_45 ?_
      refine zl_top (y := S0.2.1 1) rfl ?_
      refine lv_iload_n hx hb dX6_rest_46 rfl (lv_at hl 1 rfl) ?_
      refine lv_iadd hx hb dX6_rest_47 ?_
      refine va_iast hx hb hK hP hD hS 2 0 rfl rfl (by decide : inB 1 130) dX6_rest_48 (fun H locs hP hD hS => ?_)
      have hP : va_P G.1 vwCl (ce_X6 G.2.1 a0 (S0.1, (upd S0.2.1 1 ((S0.2.1 1) + v1)), S0.2.2.1, S0.2.2.2.1, S0.2.2.2.2.1, S0.2.2.2.2.2.1, S0.2.2.2.2.2.2.1, S0.2.2.2.2.2.2.2.1, S0.2.2.2.2.2.2.2.2.1, S0.2.2.2.2.2.2.2.2.2.1, S0.2.2.2.2.2.2.2.2.2.2.1, S0.2.2.2.2.2.2.2.2.2.2.2.1, S0.2.2.2.2.2.2.2.2.2.2.2.2.1, S0.2.2.2.2.2.2.2.2.2.2.2.2.2)) H := hP
      have hD : va_D A (ce_X6 G.2.1 a0 (S0.1, (upd S0.2.1 1 ((S0.2.1 1) + v1)), S0.2.2.1, S0.2.2.2.1, S0.2.2.2.2.1, S0.2.2.2.2.2.1, S0.2.2.2.2.2.2.1, S0.2.2.2.2.2.2.2.1, S0.2.2.2.2.2.2.2.2.1, S0.2.2.2.2.2.2.2.2.2.1, S0.2.2.2.2.2.2.2.2.2.2.1, S0.2.2.2.2.2.2.2.2.2.2.2.1, S0.2.2.2.2.2.2.2.2.2.2.2.2.1, S0.2.2.2.2.2.2.2.2.2.2.2.2.2)) := hD
      refine lv_aload_n hx hb dX6_rest_49 rfl (lv_at hl 0 rfl) ?_
      refine va_get (D := G.1) (ci := 6) (v := .ref a0.2.2.1) (C := RX6) (T := TX6) (N := 14) hx hb hts hinX6 hown hK hP 0 rfl rfl 1 (by decide) lk0 (fun _ h9 => h9) rfl dX6_rest_50 ?_
      refine lv_iconst (v := 1) hx hb dX6_rest_53 (by decide) ?_
      refine va_iald hx hb hK hP 2 0 rfl rfl (by decide : inB 1 130) dX6_rest_54 ?_
      refine zl_top (y := (upd S0.2.1 1 ((S0.2.1 1) + v1)) 1) rfl ?_
      exact fin _ _ _ _ _ _ hf hP hD hS dX6_rest_55
    · replace hf := ob_neg c1 hf
      refine lv_aload_n hx hb dX6_rest_33 rfl (lv_at hl 0 rfl) ?_
      refine lv_iload_n hx hb dX6_rest_34 rfl (lv_at hl 2 rfl) ?_
      obtain ⟨r2, hr2, hf⟩ := ob_bind hf
      have hFc := va_free (wc := ce_X6 G.2.1 a0 S0) hD hS hA [0, 1, 2, 3, 4, 5, 6, 7, 8, 9] rfl
      refine zc_wr (cf := (fun u => ce_X6 G.2.1 a0 u)) (ws' := ce_X6 G.2.1 a0 r2.2) (va_runV (As := [.int v2]) (rest := []) ⟨hx, hb, hml, hown, hts⟩ (c_X6_refuse l G a0 H.size S0 v2 _ hr2) (cwV 1 hts gX6_rest_X6_refuse rfl rfl rfl (by decide +kernel) ⟨Nat.le_of_ble_eq_true rfl, Nat.le_of_ble_eq_true rfl⟩) ⟨PcM.blind, va_recv hK hP (ci := 6) (q0 := 0) rfl rfl, PcM.ok hP hD hK hE hS hFc⟩ rfl rfl hl.1 rfl (lv_room (Nat.le_of_ble_eq_true rfl)) dX6_rest_35 ⟨Nat.le_refl _, Nat.le_refl _⟩) hP hD hS hA [0, 1, 2, 3, 4, 5, 6, 7, 8, 9] [] [0, 1, 2, 3, 4, 5, 6, 7, 8, 9] rfl rfl (by decide) (by decide) (by decide) rfl (fun H locs hP hD hS => ?_)
      exact fin _ _ _ _ _ _ hf hP hD hS dX6_rest_38
  have go : ∀ (H : Heap) (locs : List Loc), va_P G.1 vwCl (ce_X6 G.2.1 a0 S0) H → va_D A (ce_X6 G.2.1 a0 S0) → va_S A s.heap H locs → ∀ (ls : Array Slot), lv_has ls 3 [(0, .ref a0.1), (1, .int p1)] → W p l e (headSpec wsX6_rest rm_X6_rest).room s m args below meth c H locs 0 0 Q (F0 m 0 ls []) := by
    intro H locs hP hD hS ls hl
    refine lv_iload_n hx hb dX6_rest_0 rfl (lv_at hl 1 rfl) ?_
    refine lv_iconst (v := 1) hx hb dX6_rest_1 (by decide) ?_
    refine lv_bipush (v := 60) hx hb dX6_rest_2 (by decide) ?_
    obtain ⟨r3, hr3, hf⟩ := ob_bind hf
    have hPc : va_P G.1 vwCl (([] : va_W)) H := hP.sub [] rfl
    have hDc : va_D A (([] : va_W)) := hD.sub [] (by decide) rfl
    have hFc := va_free (wc := ([] : va_W)) hD hS hA [] rfl
    refine zc_ro (va_runS (As := [.int p1, .int 1, .int 60]) (rest := []) ⟨hx, hb, hml, hown, hts⟩ (c_X6_within l G H.size p1 1 60 _ hr3) (va_cwS 3 hts gX6_rest_X6_within rfl rfl rfl (by decide +kernel) ⟨Nat.le_of_ble_eq_true rfl, Nat.le_of_ble_eq_true rfl⟩) ⟨PcM.blind, PcM.ok hPc hDc hK hE hS hFc⟩ rfl rfl hl.1 rfl (lv_room (Nat.le_of_ble_eq_true rfl)) dX6_rest_4 ⟨Nat.le_refl _, Nat.le_refl _⟩) hP hD hS hA [] rfl (fun H locs hP hS => ?_)
    refine lv_istore_n (lv' := [(2, .int r3), (0, .ref a0.1), (1, .int p1)]) hx hb dX6_rest_7 rfl hl (by decide) rfl (fun ls hl => ?_)
    refine lv_iload_n hx hb dX6_rest_8 rfl (lv_at hl 0 rfl) ?_
    refine lv_if_ne (tgt := 29) hx hb dX6_rest_9 (by decide) (fun c4 => ?_) (fun c4 => ?_)
    · replace hf := ob_neg c4 hf
      exact blk29 _ _ _ hf _ _ hP hD hS _ (lv_sub hl [1, 2, 0] rfl)
    · replace hf := ob_pos c4 hf
      refine lv_aload_n hx hb dX6_rest_12 rfl (lv_at hl 1 rfl) ?_
      refine va_get (D := G.1) (ci := 6) (v := .ref a0.2.2.1) (C := RX6) (T := TX6) (N := 14) hx hb hts hinX6 hown hK hP 0 rfl rfl 1 (by decide) lk0 (fun _ h9 => h9) rfl dX6_rest_13 ?_
      refine lv_iconst (v := 1) hx hb dX6_rest_16 (by decide) ?_
      refine va_iald hx hb hK hP 2 0 rfl rfl (by decide : inB 1 130) dX6_rest_17 ?_
      refine zl_top (y := S0.2.1 1) rfl ?_
      refine lv_iload_n hx hb dX6_rest_18 rfl (lv_at hl 2 rfl) ?_
      refine lv_iadd hx hb dX6_rest_19 ?_
      refine lv_sipush (v := 999) hx hb dX6_rest_20 (by decide) ?_
      refine lv_icmp_le (tgt := 29) hx hb dX6_rest_23 (by decide) (fun c5 => ?_) (fun c5 => ?_)
      · replace hf := ob_pos c5 hf
        exact blk29 _ _ _ hf _ _ hP hD hS _ (lv_sub hl [1, 2, 0] rfl)
      · replace hf := ob_neg c5 hf
        refine lv_bipush (v := (-6)) hx hb dX6_rest_26 (by decide) ?_
        refine lv_istore_n (lv' := [(2, .int (-6)), (0, .ref a0.1), (1, .int p1)]) hx hb dX6_rest_28 rfl hl (by decide) rfl (fun ls hl => ?_)
        exact blk29 _ _ _ hf _ _ hP hD hS _ (lv_sub hl [1, 2, 0] rfl)
  exact go _ _ hP hD hS _ hl
