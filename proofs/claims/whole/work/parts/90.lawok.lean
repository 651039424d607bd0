/-! the law's loop: side by side at the beginning, and after every call -/
theorem rr_start : RR in_X5 in_X6 := by
  have e0 : nE in_X1 = 0 := zclamp (k := 0) (by omega)
  have b0 : nB in_X0 = 0 := zclamp (k := 0) (by omega)
  have z0 : zN in_X2 = 0 := zclamp (k := 0) (by omega)
  have u0 : uL in_X1 = 0 := zclamp (k := 0) (by omega)
  have f0 : fL in_X1 = 0 := zclamp (k := 0) (by omega)
  have F : WF in_X1 := by
    unfold WF
    rw [e0, u0, f0]
    exact ⟨⟨rfl, Nat.zero_le _⟩, fun e he => absurd he (Nat.not_lt_zero e), fun e he => absurd he (Nat.not_lt_zero e), fun e he => absurd he (Nat.not_lt_zero e), fun e he => absurd he (Nat.not_lt_zero e), fun e he => absurd he (Nat.not_lt_zero e), rfl, ⟨rfl, by decide⟩, ⟨rfl, by decide⟩⟩
  have G : sF in_X1 (fun _ => 0) := by
    unfold sF
    rw [e0]
    exact ⟨rfl, rfl, rfl, fun e he => absurd he (Nat.not_lt_zero e)⟩
  have B : WB in_X0 := by
    unfold WB
    rw [b0]
    exact ⟨⟨rfl, Nat.zero_le _⟩, fun e he => absurd he (Nat.not_lt_zero e)⟩
  have C : sB in_X0 (fun _ => 0) := by
    unfold sB
    rw [b0]
    exact ⟨rfl, fun e he => absurd he (Nat.not_lt_zero e)⟩
  have W : RW in_X4 (fun _ => 0) := ⟨F, G, B, C, 0, Nat.zero_le _, rfl, rfl⟩
  have Z : WL in_X2 := by
    unfold WL
    rw [z0]
    exact ⟨⟨rfl, Nat.zero_le _⟩, fun e he => absurd he (Nat.not_lt_zero e)⟩
  have T : sT in_X2 in_X6 := by
    unfold sT
    rw [z0]
    exact ⟨rfl, fun e he => absurd he (Nat.not_lt_zero e)⟩
  exact ⟨Z, T, W, W, rfl, ⟨0, Nat.zero_le _, rfl, rfl, fun e he => absurd he (Nat.not_lt_zero e)⟩, fun j hj => rfl⟩
theorem nI_less5 (a : Nat) : nI (a + 5) - 5 = nI a := by
  rw [← nI_add, show nI 5 = (5 : Int32) from rfl, Int32.add_sub_cancel]
theorem nI_small5 : ∀ a, a < 5 → nI a - 5 < 0 := by decide +kernel
/-- whether no call is left -/
theorem law_end {L i : Nat} (hL : L ≤ 2560) (hi : i ≤ 2565) : nI L - 5 < nI i ↔ L < i + 5 := by
  by_cases g : L < 5
  · have z := nI_small5 L g
    exact ⟨fun _ => by omega, fun _ => zneg_le z (by omega)⟩
  · obtain ⟨a, rfl⟩ : ∃ a, L = a + 5 := ⟨L - 5, by omega⟩
    rw [nI_less5, nI_ltI (by omega) (by omega)]
    omega
theorem law_go {L : Nat} {xs : Nat → Int32} (hL : L ≤ 2560) : ∀ fu i X M, RR X M → i ≤ L + 5 → L + 5 - i < 5 * fu → f_L_law_b18 L xs fu X M (nI i) = some 1 := by
  intro fu
  induction fu with
  | zero => intro i X M h a b; omega
  | succ fu ih =>
    intro i X M h a b
    rw [f_L_law_b18, show Int32.ofNat L = nI L from rfl]
    by_cases g : L < i + 5
    · rw [if_pos ((law_end hL (by omega)).mpr g)]
    have j0 : inB (nI i) L := zin (by omega) (by omega)
    have j1 : inB (nI i + 1) L := by rw [nI_1]; exact zin (by omega) (by omega)
    have j2 : inB (nI i + 2) L := by rw [show nI i + 2 = nI (i + 2) from nI_add i 2]; exact zin (by omega) (by omega)
    have j3 : inB (nI i + 3) L := by rw [show nI i + 3 = nI (i + 3) from nI_add i 3]; exact zin (by omega) (by omega)
    have j4 : inB (nI i + 4) L := by rw [show nI i + 4 = nI (i + 4) from nI_add i 4]; exact zin (by omega) (by omega)
    rw [if_neg (fun z => g ((law_end hL (by omega)).mp z)), if_pos j0]
    have nx : ∀ X' M', RR X' M' → f_L_law_b952 L xs (f_L_law_b18 L xs fu) X' M' (nI i) = some 1 := by
      intro X' M' h'
      rw [f_L_law_b952, show nI i + 5 = nI (i + 5) from nI_add i 5]
      exact ih (i + 5) X' M' h' (by omega) (by omega)
    generalize f_L_law_b18 L xs fu = K at nx ⊢
    generalize xs (nI i).toNatClampNeg = x0
    generalize xs (nI i + 1).toNatClampNeg = x1
    generalize xs (nI i + 2).toNatClampNeg = x2
    generalize xs (nI i + 3).toNatClampNeg = x3
    generalize xs (nI i + 4).toNatClampNeg = x4
    by_cases c0 : x0 &&& 31 = 0
    · obtain ⟨v, X', M', e1, e2, r⟩ := b_letter h x1
      rw [if_pos c0, if_pos j1, ob_eq e1, if_pos j1, ob_eq e2, if_pos rfl]
      exact nx _ _ r
    rw [if_neg c0]
    by_cases c1 : x0 &&& 31 = 1
    · obtain ⟨v, X', M', e1, e2, r⟩ := b_land h
      rw [if_pos c1, ob_eq e1, ob_eq e2, if_pos rfl]
      exact nx _ _ r
    rw [if_neg c1]
    by_cases c2 : x0 &&& 31 = 2
    · obtain ⟨v, X', M', e1, e2, r⟩ := b_engine h x1 x2
      rw [if_pos c2, if_pos j1, if_pos j2, ob_eq e1, if_pos j1, if_pos j2, ob_eq e2, if_pos rfl]
      exact nx _ _ r
    rw [if_neg c2]
    by_cases c3 : x0 &&& 31 = 3
    · obtain ⟨v, X', M', e1, e2, r⟩ := b_turn h x1 x2
      rw [if_pos c3, if_pos j1, if_pos j2, ob_eq e1, if_pos j1, if_pos j2, ob_eq e2, if_pos rfl]
      exact nx _ _ r
    rw [if_neg c3]
    by_cases c4 : x0 &&& 31 = 4
    · obtain ⟨v, X', M', e1, e2, r⟩ := b_at h x1 x2
      rw [if_pos c4, if_pos j1, if_pos j2, ob_eq e1, if_pos j1, if_pos j2, ob_eq e2, if_pos rfl]
      exact nx _ _ r
    rw [if_neg c4]
    by_cases c5 : x0 &&& 31 = 5
    · obtain ⟨v, X', M', e1, e2, r⟩ := b_pass h x1 x2
      rw [if_pos c5, if_pos j1, if_pos j2, ob_eq e1, if_pos j1, if_pos j2, ob_eq e2, if_pos rfl]
      exact nx _ _ r
    rw [if_neg c5]
    by_cases c6 : x0 &&& 31 = 6
    · obtain ⟨v, X', M', e1, e2, r⟩ := b_stand h x1
      rw [if_pos c6, if_pos j1, ob_eq e1, if_pos j1, ob_eq e2, if_pos rfl]
      exact nx _ _ r
    rw [if_neg c6]
    by_cases c7 : x0 &&& 31 = 7
    · obtain ⟨v, X', M', e1, e2, r⟩ := b_rest h x1
      rw [if_pos c7, if_pos j1, ob_eq e1, if_pos j1, ob_eq e2, if_pos rfl]
      exact nx _ _ r
    rw [if_neg c7]
    by_cases c8 : x0 &&& 31 = 8
    · obtain ⟨v, X', M', e1, e2, r⟩ := b_underline h x1 x2
      rw [if_pos c8, if_pos j1, if_pos j2, ob_eq e1, if_pos j1, if_pos j2, ob_eq e2, if_pos rfl]
      exact nx _ _ r
    rw [if_neg c8]
    by_cases c9 : x0 &&& 31 = 9
    · obtain ⟨v, X', M', e1, e2, r⟩ := b_fresh h x1 x2
      rw [if_pos c9, if_pos j1, if_pos j2, ob_eq e1, if_pos j1, if_pos j2, ob_eq e2, if_pos rfl]
      exact nx _ _ r
    rw [if_neg c9]
    by_cases c10 : x0 &&& 31 = 10
    · obtain ⟨v, X', M', e1, e2, r⟩ := b_where h x1
      rw [if_pos c10, if_pos j1, ob_eq e1, if_pos j1, ob_eq e2, if_pos rfl]
      exact nx _ _ r
    rw [if_neg c10]
    by_cases c11 : x0 &&& 31 = 11
    · obtain ⟨v, X', M', e1, e2, r⟩ := b_plan h x1 x2 x3
      rw [if_pos c11, if_pos j1, if_pos j2, if_pos j3, ob_eq e1, if_pos j1, if_pos j2, if_pos j3, ob_eq e2, if_pos rfl]
      exact nx _ _ r
    rw [if_neg c11]
    by_cases c12 : x0 &&& 31 = 12
    · obtain ⟨v, X', M', e1, e2, r⟩ := b_await h x1 x2
      rw [if_pos c12, if_pos j1, if_pos j2, ob_eq e1, if_pos j1, if_pos j2, ob_eq e2, if_pos rfl]
      exact nx _ _ r
    rw [if_neg c12]
    by_cases c13 : x0 &&& 31 = 13
    · obtain ⟨v, X', M', e1, e2, r⟩ := b_chase h x1
      rw [if_pos c13, if_pos j1, ob_eq e1, if_pos j1, ob_eq e2, if_pos rfl]
      exact nx _ _ r
    rw [if_neg c13]
    by_cases c14 : x0 &&& 31 = 14
    · obtain ⟨v, e1, e2⟩ := b_ever h
      rw [if_pos c14, ob_eq e1, ob_eq e2, if_pos rfl]
      exact nx _ _ h
    rw [if_neg c14]
    by_cases c15 : x0 &&& 31 = 15
    · obtain ⟨v, X', M', e1, e2, r⟩ := b_all h
      rw [if_pos c15, ob_eq e1, ob_eq e2, if_pos rfl]
      exact nx _ _ r
    rw [if_neg c15]
    by_cases c16 : x0 &&& 31 = 16
    · obtain ⟨v, X', M', e1, e2, r⟩ := b_reading h x1 x2 x3 x4
      rw [if_pos c16, if_pos j1, if_pos j2, if_pos j3, if_pos j4, ob_eq e1, if_pos j1, if_pos j2, if_pos j3, if_pos j4, ob_eq e2, if_pos rfl]
      exact nx _ _ r
    rw [if_neg c16]
    by_cases c17 : x0 &&& 31 = 17
    · obtain ⟨v, X', M', e1, e2, r⟩ := b_forget h
      rw [if_pos c17, ob_eq e1, ob_eq e2, if_pos rfl]
      exact nx _ _ r
    rw [if_neg c17]
    by_cases c18 : x0 &&& 31 = 18
    · obtain ⟨v, X', M', e1, e2, r⟩ := b_fitting h x1 x2
      rw [if_pos c18, if_pos j1, if_pos j2, ob_eq e1, if_pos j1, if_pos j2, ob_eq e2, if_pos rfl]
      exact nx _ _ r
    rw [if_neg c18]
    by_cases c19 : x0 &&& 31 = 19
    · obtain ⟨v, e1, e2⟩ := b_madeUp h
      rw [if_pos c19, ob_eq e1, ob_eq e2, if_pos rfl]
      exact nx _ _ h
    rw [if_neg c19]
    by_cases c20 : x0 &&& 31 = 20
    · obtain ⟨v, e1, e2⟩ := b_liars h
      rw [if_pos c20, ob_eq e1, ob_eq e2, if_pos rfl]
      exact nx _ _ h
    rw [if_neg c20]
    by_cases c21 : x0 &&& 31 = 21
    · obtain ⟨v, X', M', e1, e2, r⟩ := b_clash h x1
      rw [if_pos c21, if_pos j1, ob_eq e1, if_pos j1, ob_eq e2, if_pos rfl]
      exact nx _ _ r
    rw [if_neg c21]
    by_cases c22 : x0 &&& 31 = 22
    · obtain ⟨v, e1, e2⟩ := b_sure h
      rw [if_pos c22, ob_eq e1, ob_eq e2, if_pos rfl]
      exact nx _ _ h
    rw [if_neg c22]
    by_cases c23 : x0 &&& 31 = 23
    · obtain ⟨v, X', M', e1, e2, r⟩ := b_pairs h x1 x2
      rw [if_pos c23, if_pos j1, if_pos j2, ob_eq e1, if_pos j1, if_pos j2, ob_eq e2, if_pos rfl]
      exact nx _ _ r
    rw [if_neg c23]
    by_cases c24 : x0 &&& 31 = 24
    · obtain ⟨v, e1, e2⟩ := b_many h
      rw [if_pos c24, ob_eq e1, ob_eq e2, if_pos rfl]
      exact nx _ _ h
    rw [if_neg c24]
    by_cases c25 : x0 &&& 31 = 25
    · obtain ⟨v, e1, e2⟩ := b_more h
      rw [if_pos c25, ob_eq e1, ob_eq e2, if_pos rfl]
      exact nx _ _ h
    rw [if_neg c25]
    by_cases c26 : x0 &&& 31 = 26
    · obtain ⟨v, X', M', e1, e2, r⟩ := b_seeds h x1 x2
      rw [if_pos c26, if_pos j1, if_pos j2, ob_eq e1, if_pos j1, if_pos j2, ob_eq e2, if_pos rfl]
      exact nx _ _ r
    rw [if_neg c26]
    by_cases c27 : x0 &&& 31 = 27
    · obtain ⟨v, X', M', e1, e2, r⟩ := b_row h x1
      rw [if_pos c27, if_pos j1, ob_eq e1, if_pos j1, ob_eq e2, if_pos rfl]
      exact nx _ _ r
    rw [if_neg c27]
    by_cases c28 : x0 &&& 31 = 28
    · obtain ⟨v, X', M', e1, e2, r⟩ := b_judge h x1
      rw [if_pos c28, if_pos j1, ob_eq e1, if_pos j1, ob_eq e2, if_pos rfl]
      exact nx _ _ r
    rw [if_neg c28]
    by_cases c29 : x0 &&& 31 = 29
    · obtain ⟨v, X', M', e1, e2, r⟩ := b_image h
      rw [if_pos c29, ob_eq e1, ob_eq e2, if_pos rfl]
      exact nx _ _ r
    rw [if_neg c29]
    by_cases c30 : x0 &&& 31 = 30
    · obtain ⟨v, X', M', e1, e2, r⟩ := b_on h
      rw [if_pos c30, ob_eq e1, ob_eq e2, if_pos rfl]
      exact nx _ _ r
    rw [if_neg c30]
    by_cases c31 : x0 &&& 31 = 31
    · obtain ⟨v, e1, e2⟩ := b_count h x1
      rw [if_pos c31, if_pos j1, ob_eq e1, if_pos j1, ob_eq e2, if_pos rfl]
      exact nx _ _ h
    rw [if_neg c31]
    exact nx _ _ h
theorem law_ok (L : Nat) (xs : Nat → Int32) (hL : L ≤ 2560) : f_L_law_b18 L xs 4096 in_X5 in_X6 0 = some 1 :=
  law_go hL 4096 0 in_X5 in_X6 rr_start (Nat.zero_le _) (by omega)
