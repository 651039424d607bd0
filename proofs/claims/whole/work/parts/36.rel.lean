/-! the class and the reference, side by side -/
def RW (W : ST_X4) (s : Nat → Int32) : Prop :=
  WF W.1 ∧ sF W.1 s ∧ WB W.2.1 ∧ sB W.2.1 s ∧ ∃ t, t ≤ 999 ∧ W.2.2 = nI t ∧ s 1 = nI t
def RR (X : ST_X5) (M : ST_X6) : Prop :=
  WL X.1 ∧ sT X.1 M ∧ RW X.2.1 M.2.1 ∧ RW X.2.2.1 M.2.2.1 ∧ X.2.2.2.1 = M.2.2.2.2.1 ∧
  (∃ k, k ≤ 14 ∧ X.2.2.2.2.2.2.2.1 = nI k ∧ M.2.2.2.2.2.2.2.2.2.2.2.2.2 = nI k ∧ ∀ i, i < k → M.2.2.2.2.2.2.2.2.2.2.2.2.1 i = X.2.2.2.2.2.2.1 i) ∧
  (∀ j, j < 6 → X.2.2.2.2.2.2.2.2 j = M.1 (j + 1))
/-- equal answers, and side by side again -/
def BC (x : Option (Int32 × ST_X5)) (m : Option (Int32 × ST_X6)) : Prop := ∃ v X' M', x = some (v, X') ∧ m = some (v, M') ∧ RR X' M'
theorem ob_id {α : Type} (x : Option (Int32 × α)) : (x.bind fun r => some (r.1, r.2)) = x := by
  cases x <;> rfl
section C
variable {X : ST_X5} {M : ST_X6}
theorem bc_same (h : RR X M) {x : Option (Int32 × ST_X5)} {m : Option (Int32 × ST_X6)} {v : Int32} (hx : x = some (v, X)) (hm : m = some (v, M)) : BC x m := ⟨v, X, M, hx, hm, h⟩
theorem bc_ref0 (h : RR X M) {k : Int32} {j : Nat} (hj : j < 6) (e1 : ¬ 0 ≤ k) (e2 : ¬ k < -6) (e3 : (-k) - 1 = nI j) (e4 : -k = nI (j + 1)) : BC (f_X5_refuse X k) (f_X6_refuse M k) := by
  have i6 : inB (nI j) 6 := zin hj (by omega)
  have i7 : inB (nI (j + 1)) 7 := zin (by omega) (by omega)
  obtain ⟨h1, h2, h3, h4, h5, h6, h7⟩ := h
  rw [f_X5_refuse, if_neg e1, if_neg e2, e3, if_pos i6, if_pos i6, zclamp (by omega), f_X5_refuse_b23, f_X6_refuse, e4, if_pos i7, if_pos i7, zclamp (by omega)]
  refine ⟨k, _, _, rfl, rfl, h1, h2, h3, h4, h5, h6, fun i hi => ?_⟩
  show upd X.2.2.2.2.2.2.2.2 j _ i = upd M.1 (j + 1) _ (i + 1)
  by_cases q : i = j
  · rw [q, pk_us, pk_us, h7 j hj]
  · rw [pk_un q, pk_un (by omega), h7 i hi]
theorem bc_r1 (h : RR X M) : BC ((f_X5_refuse X (-1)).bind fun r => some (r.1, r.2)) ((f_X6_refuse M (-1)).bind fun r => some (r.1, r.2)) := by
  rw [ob_id, ob_id]; exact bc_ref0 h (j := 0) (by omega) (by decide) (by decide) (by decide) (by decide)
theorem bc_r2 (h : RR X M) : BC ((f_X5_refuse X (-2)).bind fun r => some (r.1, r.2)) ((f_X6_refuse M (-2)).bind fun r => some (r.1, r.2)) := by
  rw [ob_id, ob_id]; exact bc_ref0 h (j := 1) (by omega) (by decide) (by decide) (by decide) (by decide)
theorem bc_r3 (h : RR X M) : BC ((f_X5_refuse X (-3)).bind fun r => some (r.1, r.2)) ((f_X6_refuse M (-3)).bind fun r => some (r.1, r.2)) := by
  rw [ob_id, ob_id]; exact bc_ref0 h (j := 2) (by omega) (by decide) (by decide) (by decide) (by decide)
theorem bc_r4 (h : RR X M) : BC ((f_X5_refuse X (-4)).bind fun r => some (r.1, r.2)) ((f_X6_refuse M (-4)).bind fun r => some (r.1, r.2)) := by
  rw [ob_id, ob_id]; exact bc_ref0 h (j := 3) (by omega) (by decide) (by decide) (by decide) (by decide)
theorem bc_r6 (h : RR X M) : BC ((f_X5_refuse X (-6)).bind fun r => some (r.1, r.2)) ((f_X6_refuse M (-6)).bind fun r => some (r.1, r.2)) := by
  rw [ob_id, ob_id]; exact bc_ref0 h (j := 5) (by omega) (by decide) (by decide) (by decide) (by decide)
theorem isIn_cases (p : Int32) {n : Nat} (hn : n < 2 ^ 31) : (∃ e, e < n ∧ p = nI e ∧ f_X6_isIn p (nI n) = some 1) ∨ ((∀ e, e < n → p ≠ nI e) ∧ f_X6_isIn p (nI n) = some 0) := by
  rw [f_X6_isIn]
  rcases zcase p with q | ⟨e, he, rfl⟩
  · rw [if_pos q, f_X6_isIn_b13]
    exact Or.inr ⟨fun e he => zneg_ne q (by omega), rfl⟩
  · rw [if_neg (zn_neg he), f_X6_isIn_b13]
    by_cases g : e < n
    · rw [if_neg (fun z => absurd ((nI_leI hn he).mp z) (by omega))]
      exact Or.inl ⟨e, g, rfl, rfl⟩
    · rw [if_pos ((nI_leI hn he).mpr (by omega))]
      exact Or.inr ⟨fun e' h' z => by have := (zeq (by omega) (by omega)).mp z; omega, rfl⟩
theorem eng_cases {F : ST_X1} (h : WF F) (hs : sF F M.2.1) (p : Int32) : (∃ e, e < nE F ∧ p = nI e ∧ f_X1_knows F p = some 1 ∧ f_X6_isEngine M p = some 1) ∨ (f_X1_knows F p = some 0 ∧ f_X6_isEngine M p = some 0) := by
  have h7 := h.n7
  rw [f_X6_isEngine, hs.1, h.size]
  rcases isIn_cases p (n := nE F) (by omega) with ⟨e, he, rfl, q⟩ | ⟨n, q⟩
  · exact Or.inl ⟨e, he, rfl, x_knows_in h he, by rw [ob_eq q, if_pos (by decide)]⟩
  · refine Or.inr ⟨?_, by rw [ob_eq q, if_pos (by decide)]⟩
    rcases zcase p with w | ⟨e, he, rfl⟩
    · exact x_knows_neg F w
    · rw [x_knows h he, if_neg (fun z => n e z rfl)]
theorem place_cases (p : Int32) : (∃ e, e < 5 ∧ p = nI e ∧ f_X5_isPlace p = some 1 ∧ f_X6_isPlace p = some 1) ∨ (f_X5_isPlace p = some 0 ∧ f_X6_isPlace p = some 0) := by
  rw [f_X6_isPlace, zL5]
  rcases isIn_cases p (n := 5) (by omega) with ⟨e, he, rfl, q⟩ | ⟨n, q⟩
  · refine Or.inl ⟨e, he, rfl, ?_, by rw [ob_eq q, if_pos (by decide)]⟩
    rw [f_X5_isPlace, if_neg (zn_neg (by omega)), zL5, if_neg (fun z => absurd ((nI_leI (by omega) (by omega)).mp z) (by omega))]
  · refine Or.inr ⟨?_, by rw [ob_eq q, if_pos (by decide)]⟩
    rcases zcase p with w | ⟨e, he, rfl⟩
    · rw [f_X5_isPlace, if_pos w, f_X5_isPlace_b13]
    · rw [f_X5_isPlace, if_neg (zn_neg he), zL5, if_pos ((nI_leI (by omega) (by omega)).mpr (Nat.le_of_not_lt (fun z => n e z rfl))), f_X5_isPlace_b13]
/-- below, above, or a number in between -/
theorem within_cases (p : Int32) {a b : Nat} (ha : a < 2 ^ 31) (hb : b < 2 ^ 31) : (¬ nI a ≤ p ∧ f_X6_within p (nI a) (nI b) = some (-4)) ∨ (nI a ≤ p ∧ (∃ n, b < n ∧ n < 2 ^ 31 ∧ p = nI n) ∧ f_X6_within p (nI a) (nI b) = some (-6)) ∨ (∃ n, a ≤ n ∧ n ≤ b ∧ p = nI n ∧ nI a ≤ p ∧ f_X6_within p (nI a) (nI b) = some 0) := by
  rw [f_X6_within]
  rcases zcase p with q | ⟨n, hn, rfl⟩
  · have := zneg_le' q ha
    rw [if_neg this]
    exact Or.inl ⟨this, rfl⟩
  · by_cases g : a ≤ n
    · have ga := (nI_leI ha hn).mpr g
      rw [if_pos ga]
      by_cases g2 : n ≤ b
      · rw [if_pos ((nI_leI hn hb).mpr g2)]
        exact Or.inr (Or.inr ⟨n, g, g2, rfl, ga, rfl⟩)
      · rw [if_neg (fun z => g2 ((nI_leI hn hb).mp z))]
        exact Or.inr (Or.inl ⟨ga, ⟨n, by omega, hn, rfl⟩, rfl⟩)
    · have ga : ¬ nI a ≤ nI n := fun z => g ((nI_leI ha hn).mp z)
      rw [if_neg ga]
      exact Or.inl ⟨ga, rfl⟩
theorem b_letter (h : RR X M) (p : Int32) : BC (f_X5_letter X p) (f_X6_letter M p) := by
  have h0 := h
  obtain ⟨hL, hT, h3, h4, h5, h6, h7⟩ := h
  have h64 := hL.1.2
  rw [f_X5_letter, f_X6_letter, show (0 : Int32) = nI 0 from rfl, zL255]
  rcases within_cases p (a := 0) (b := 255) (by omega) (by omega) with ⟨q1, q2⟩ | ⟨q1, ⟨n, n1, n2, rfl⟩, q2⟩ | ⟨n, n1, n2, rfl, q1, q2⟩
  · rw [if_neg q1, ob_eq q2, if_neg (by decide), f_X6_letter_b25, if_neg (by decide)]
    exact bc_r4 h0
  · rw [if_pos q1, if_pos ((nI_ltI (by omega) (by omega)).mpr n1), f_X5_letter_b29, ob_eq q2, if_neg (by decide), f_X6_letter_b25, if_neg (by decide)]
    exact bc_r6 h0
  · rw [if_pos q1, if_neg (fun z => absurd ((nI_ltI (by omega) (by omega)).mp z) (by omega)), ob_eq q2, if_pos (show (0 : Int32) = nI 0 from rfl), f_X2_add, hT.1, hL.1.1, zL64, zif (nI_ltI (a := zN X.1) (b := 64) (by omega) (by omega)), zif (zeq (a := zN X.1) (b := 64) (by omega) (by omega))]
    by_cases g : zN X.1 < 64
    · rw [if_pos g, if_pos (zin (by omega) (by omega)), if_neg (by omega), zclamp (by omega), f_X6_letter_b25, if_pos rfl, hT.1, hL.1.1, if_pos (zin (by omega) (by omega)), zclamp (by omega)]
      have z' : zN (upd X.1.1 (zN X.1) (nI n), nI (zN X.1) + 1) = zN X.1 + 1 := by
        show (nI (zN X.1) + 1).toNatClampNeg = _
        rw [nI_1, zclamp (by omega)]
      refine ⟨nI (zN X.1) + 1, _, _, rfl, rfl, ⟨⟨?_, ?_⟩, ?_⟩, ⟨rfl, ?_⟩, h3, h4, h5, h6, h7⟩
      · rw [z']; exact nI_1 _
      · rw [z']; omega
      · rw [z']
        intro i hi
        show upd X.1.1 (zN X.1) (nI n) i = nI (upd X.1.1 (zN X.1) (nI n) i).toNatClampNeg ∧ (upd X.1.1 (zN X.1) (nI n) i).toNatClampNeg ≤ 255
        by_cases e : i = zN X.1
        · rw [e, pk_us, zclamp (by omega)]; exact ⟨rfl, n2⟩
        · rw [pk_un e]; exact hL.2 i (by omega)
      · rw [z']
        intro i hi
        show upd M.2.2.2.2.2.1 (zN X.1) (nI n) i = upd X.1.1 (zN X.1) (nI n) i
        by_cases e : i = zN X.1
        · rw [e, pk_us, pk_us]
        · rw [pk_un e, pk_un e]; exact hT.2 i (by omega)
    · rw [if_neg g, if_pos (by omega), f_X6_letter_b25, if_neg (show ¬ (-6 : Int32) = 0 by decide)]
      exact bc_r6 h0
theorem b_land (h : RR X M) : BC (f_X5_land X) (f_X6_land M) := by
  obtain ⟨hL, hT, ⟨w1, w2, w3, w4, t, t1, t2, t3⟩, h4, h5, h6, h7⟩ := h
  have h64 := hL.1.2
  rw [f_X5_land, f_X5_landTold, ob_eq (x_stuck hL), f_X6_land, f_X6_reads]
  have P := m_phase1 (M := M) hL hT (r := M.2.2.2.1) 65 4096 0 0 M.2.2.2.2.2.2.1 (by omega) (by omega) (by omega)
  have wl0 : ∀ a : Nat → Int32, WL (a, 0) := fun a => ⟨⟨rfl, Nat.zero_le _⟩, fun i hi => absurd hi (Nat.not_lt_zero i)⟩
  by_cases g : ph (lt X.1) (zN X.1) 65 0 = -1
  · obtain ⟨V', e⟩ := P.1 g
    obtain ⟨r, r1, r2⟩ := m_copies M.2.1 M.2.2.2.1
    obtain ⟨F', f1, f2⟩ := x_copyF X.2.2.2.2.1 X.2.1.1
    have zp : 0 < zN X.1 := by
      rw [ph_succ] at g
      by_cases q : (stm (lt X.1) 0).1 = true
      · have := stm_gt q
        have := (stm_ok q).2.2.2
        omega
      · rw [if_neg q] at g
        exact absurd g.symm (zneg_ne zm1_lt (by have := stm_le (lt X.1) 0; omega))
    have L := both_phase2 (S := X) (M := M) hL hT (nst (lt X.1) (zN X.1) 65 0) 65 0 4096 4096 0 F' r V' zp (by omega) (by omega) (by omega) (agF_WF w1 f2) (agF_sF w1 f2 r2 w2) g
    rw [Nat.zero_add] at L e
    rw [ob_eq r1] at e
    have x1 : ∀ y, (if ph (lt X.1) (zN X.1) 65 0 < 0 then ((f_X1_copyFrom X.2.2.2.2.1 X.2.1.1).bind fun r9 => f_X5_landTold_b39 4096 (X.1, X.2.1, X.2.2.1, X.2.2.2.1, r9, X.2.2.2.2.2.1, X.2.2.2.2.2.2.1, X.2.2.2.2.2.2.2.1, X.2.2.2.2.2.2.2.2) 0 0 0) else y) = f_X5_landTold_b39 4096 (sT5 X F') (nI 0) (nI 0) (nI 0) := by
      intro y
      rw [if_pos (by rw [g]; decide), ob_eq f1]
      rfl
    rw [x1]
    have e' : f_X6_reads_b7 4096 (M.1, M.2.1, M.2.2.1, M.2.2.2.1, M.2.2.2.2.1, M.2.2.2.2.2.1, M.2.2.2.2.2.2.1, M.2.2.2.2.2.2.2.1, 0, M.2.2.2.2.2.2.2.2.2.1, M.2.2.2.2.2.2.2.2.2.2.1, M.2.2.2.2.2.2.2.2.2.2.2.1, M.2.2.2.2.2.2.2.2.2.2.2.2.1, M.2.2.2.2.2.2.2.2.2.2.2.2.2) 0 = _ := e
    rw [e']
    rcases L with ⟨F2, r', V2, t', v, a1, a2⟩ | ⟨F2, r', V2, t', b1, b2, b3, a1, a2⟩
    · have a1' : f_X5_landTold_b39 4096 (sT5 X F') (nI 0) (nI 0) (nI 0) = _ := a1
      have a2' : f_X6_reads_b53 4096 (mK M r V' 0) (nI (nst (lt X.1) (zN X.1) 65 0)) = _ := a2
      rw [ob_eq a1', ob_eq a2']
      exact ⟨v, _, _, rfl, rfl, wl0 _, ⟨rfl, fun i hi => absurd hi (Nat.not_lt_zero i)⟩, ⟨w1, w2, w3, w4, t, t1, t2, t3⟩, h4, h5, h6, h7⟩
    · obtain ⟨rr, c1, c2⟩ := m_copies r' M.2.1
      obtain ⟨FF, d1, d2⟩ := x_copyF X.2.1.1 F2
      rw [ob_eq d1] at a1
      rw [ob_eq c1] at a2
      have a1' : f_X5_landTold_b39 4096 (sT5 X F') (nI 0) (nI 0) (nI 0) = _ := a1
      have a2' : f_X6_reads_b53 4096 (mK M r V' 0) (nI (nst (lt X.1) (zN X.1) 65 0)) = _ := a2
      rw [ob_eq a1', ob_eq a2']
      refine ⟨_, _, _, rfl, rfl, wl0 _, ⟨rfl, fun i hi => absurd hi (Nat.not_lt_zero i)⟩, ⟨agF_WF b1 d2, agF_sF b1 d2 c2 b2, w3, ?_, t, t1, t2, ?_⟩, h4, h5, h6, h7⟩
      · refine ⟨?_, fun i hi => ?_⟩
        · show rr 4 = _
          rw [c2 4 (by omega), b3.2.1, r2 4 (by omega)]; exact w4.1
        · have n12 := w3.1.2
          have hi' : i < nB X.2.1.2.1 := hi
          have k : ∀ j, 82 ≤ j → j < 130 → rr j = M.2.1 j := fun j h1 h2 => by rw [c2 j h2, b3.2.2 j h1, r2 j h2]
          show rr (82 + 4 * i) = _ ∧ rr (82 + 4 * i + 1) = _ ∧ rr (82 + 4 * i + 2) = _ ∧ rr (82 + 4 * i + 3) = _
          rw [k _ (by omega) (by omega), k _ (by omega) (by omega), k _ (by omega) (by omega), k _ (by omega) (by omega)]
          exact w4.2 i hi
      · show rr 1 = nI t
        rw [c2 1 (by omega), b3.1, r2 1 (by omega), t3]
  · obtain ⟨nn, V', t', e⟩ := P.2 g
    have e' : f_X6_reads_b7 4096 (M.1, M.2.1, M.2.2.1, M.2.2.2.1, M.2.2.2.2.1, M.2.2.2.2.2.1, M.2.2.2.2.2.2.1, M.2.2.2.2.2.2.2.1, 0, M.2.2.2.2.2.2.2.2.2.1, M.2.2.2.2.2.2.2.2.2.2.1, M.2.2.2.2.2.2.2.2.2.2.2.1, M.2.2.2.2.2.2.2.2.2.2.2.2.1, M.2.2.2.2.2.2.2.2.2.2.2.2.2) 0 = _ := e
    rw [if_neg nn, ob_eq e']
    exact ⟨_, _, _, rfl, rfl, wl0 _, ⟨rfl, fun i hi => absurd hi (Nat.not_lt_zero i)⟩, ⟨w1, w2, w3, w4, t, t1, t2, t3⟩, h4, h5, h6, h7⟩
end C
