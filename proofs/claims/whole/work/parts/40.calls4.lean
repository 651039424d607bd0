/-! the calls, one by one: seeds, row, judge, image, on, count -/
theorem zlt_le {p q : Int32} (h : p < q) : p ≤ q := by
  rw [Int32.lt_iff_toInt_lt] at h
  rw [Int32.le_iff_toInt_le]
  omega
theorem rw_copy {W W' : ST_X4} {s s' : Nat → Int32} (h : RW W s) (a : agF W.1 W'.1) (b : agB W.2.1 W'.2.1) (c : W'.2.2 = W.2.2) (d : agS s s') : RW W' s' := by
  obtain ⟨w1, w2, w3, w4, t, t1, t2, t3⟩ := h
  exact ⟨agF_WF w1 a, agF_sF w1 a d w2, agB_WB w3 b, agB_sB w3 b d w4, t, t1, c.trans t2, (d 1 (by omega)).trans t3⟩
section C
variable {X : ST_X5} {M : ST_X6}
theorem b_seeds (h : RR X M) (q z : Int32) : BC (f_X5_seeds X q z) (f_X6_seeds M q z) := by
  have h0 := h
  obtain ⟨hL, hT, ⟨w1, w2, w3, w4, t, t1, t2, t3⟩, h4, h5, h6, h7⟩ := h
  rw [f_X5_seeds, f_X6_seeds]
  rcases rg_cases q 1 30 (a := 1) (b := 30) rfl rfl (by omega) (by omega) with ⟨q1, q2⟩ | ⟨q1, q3, -, q2⟩ | ⟨n, n1, n2, rfl, q1, q3, q2⟩
  · rw [if_neg q1, ob_eq q2, if4m0]
    exact bc_r4 h0
  · rw [if_pos q1, if_neg q3, ob_eq q2, if6m0]
    exact bc_r6 h0
  · obtain ⟨v, v1, v2⟩ := seeds_both (W := X.2.1) w2 w1 t2 t3 (n := n) (by omega) (by omega) z
    rw [if_pos q1, if_pos q3, ob_eq v1, ob_eq q2, if00]
    exact bc_same h0 rfl v2
theorem b_row (h : RR X M) (p : Int32) : BC (f_X5_row X p) (f_X6_row M p) := by
  have h0 := h
  obtain ⟨hL, hT, h3, h4, h5, ⟨k, k1, k2, k3, k4⟩, h7⟩ := h
  rw [f_X5_row, f_X6_row]
  rcases rg_cases p 0 9 (a := 0) (b := 9) rfl rfl (by omega) (by omega) with ⟨q1, q2⟩ | ⟨q1, q3, ⟨n, n1, n2, rfl⟩, q2⟩ | ⟨n, n1, n2, rfl, q1, q3, q2⟩
  · rw [if_neg q1, ob_eq q2, if4m0, f_X6_row_b24, if4m0]
    exact bc_r4 h0
  · rw [if_pos q1, if_pos (show (9 : Int32) < nI n from (nI_ltI (a := 9) (by omega) n2).mpr n1), f_X5_row_b26, ob_eq q2, if6m0, f_X6_row_b24, if6m0]
    exact bc_r6 h0
  · rw [if_pos q1, if_neg (show ¬ (9 : Int32) < nI n from fun z => absurd ((nI_ltI (a := 9) (by omega) (by omega)).mp z) (by omega)), k2, ob_eq q2, if00, k3]
    by_cases g : k < 14
    · have i14 : inB (nI k) 14 := zin g (by omega)
      rw [if_pos (show nI k < (14 : Int32) from (nI_ltI (b := 14) (by omega) (by omega)).mpr g), if_pos i14, if_neg (show ¬ nI k = (14 : Int32) from fun z => absurd ((zeq (b := 14) (by omega) (by omega)).mp z) (by omega)), f_X6_row_b24, if00, k3, if_pos i14, zclamp (by omega), nI_1]
      refine ⟨nI (k + 1), _, _, rfl, rfl, hL, ⟨hT.1, hT.2⟩, h3, h4, h5, ⟨k + 1, by omega, rfl, rfl, ?_⟩, h7⟩
      intro i hi
      show upd M.2.2.2.2.2.2.2.2.2.2.2.2.1 k (nI n) i = upd X.2.2.2.2.2.2.1 k (nI n) i
      by_cases e : i = k
      · rw [e, pk_us, pk_us]
      · rw [pk_un e, pk_un e, k4 i (by omega)]
    · rw [if_neg (show ¬ nI k < (14 : Int32) from fun z => g ((nI_ltI (b := 14) (by omega) (by omega)).mp z)), f_X5_row_b26, if_pos (show nI k = (14 : Int32) from (zeq (b := 14) (by omega) (by omega)).mpr (by omega)), f_X6_row_b24, if6m0]
      exact bc_r6 h0
theorem judge_loop (h : RR X M) {k e : Nat} (he : e < nE X.2.1.1) (hk : k ≤ 14) (k4 : ∀ i, i < k → M.2.2.2.2.2.2.2.2.2.2.2.2.1 i = X.2.2.2.2.2.2.1 i) : ∀ fu j, j ≤ k → k - j < fu → BC (f_X5_judge_b32 fu X (nI e) (nI k) (nI j)) (f_X6_judge_b26 fu M (nI e) (nI k) (nI j)) := by
  have h0 := h
  obtain ⟨hL, hT, ⟨w1, w2, w3, w4, t, t1, t2, t3⟩, h4, h5, h6, h7⟩ := h
  intro fu
  induction fu with
  | zero => intro j a b; omega
  | succ fu ih =>
    intro j a b
    rw [f_X5_judge_b32, f_X6_judge_b26]
    by_cases q : j = k
    · have q1 : nI k ≤ nI j := (nI_leI (by omega) (by omega)).mpr (by omega)
      rw [if_pos q1, f_X5_judge_b80, if_pos q1]
      exact ⟨_, _, _, rfl, rfl, h0⟩
    · have q1 : ¬ nI k ≤ nI j := fun z => absurd ((nI_leI (by omega) (by omega)).mp z) (by omega)
      have i14 : inB (nI j) 14 := zin (by omega) (by omega)
      rw [if_neg q1, if_neg (show ¬ (14 : Int32) ≤ nI j from fun z => absurd ((nI_leI (a := 14) (by omega) (by omega)).mp z) (by omega)), if_pos i14, if_neg q1, if_pos i14, t2, t3, nI_add, ob_eq (x_placeOn w1 he (by omega)), ob_eq (m_isAt w2 w1 he (by omega)), zclamp (by omega), k4 j (by omega), nI_1]
      by_cases g : X.2.2.2.2.2.2.1 j = nI (place X.2.1.1 e (t + j))
      · rw [if_pos g, if_pos g]
        exact ih (j + 1) (by omega) (by omega)
      · rw [if_neg g, if_neg g]
        exact ⟨_, _, _, rfl, rfl, h0⟩
theorem b_judge (h : RR X M) (p : Int32) : BC (f_X5_judge X p) (f_X6_judge M p) := by
  have h0 := h
  obtain ⟨hL, hT, h3, h4, h5, ⟨k, k1, k2, k3, k4⟩, h7⟩ := h
  have w1 := h3.1
  have w2 := h3.2.1
  rw [f_X5_judge, f_X6_judge]
  rcases eng_cases w1 w2 p with ⟨e, he, rfl, l1, l2⟩ | ⟨l1, l2⟩
  · rw [ob_eq l1, if10, ob_eq l2, if10, k2, k3]
    have r : RR (X.1, X.2.1, X.2.2.1, X.2.2.2.1, X.2.2.2.2.1, X.2.2.2.2.2.1, X.2.2.2.2.2.2.1, 0, X.2.2.2.2.2.2.2.2) (M.1, M.2.1, M.2.2.1, M.2.2.2.1, M.2.2.2.2.1, M.2.2.2.2.2.1, M.2.2.2.2.2.2.1, M.2.2.2.2.2.2.2.1, M.2.2.2.2.2.2.2.2.1, M.2.2.2.2.2.2.2.2.2.1, M.2.2.2.2.2.2.2.2.2.2.1, M.2.2.2.2.2.2.2.2.2.2.2.1, M.2.2.2.2.2.2.2.2.2.2.2.2.1, 0) := ⟨hL, ⟨hT.1, hT.2⟩, h3, h4, h5, ⟨0, by omega, rfl, rfl, fun i hi => absurd hi (Nat.not_lt_zero i)⟩, h7⟩
    exact judge_loop r he k1 k4 4096 0 (Nat.zero_le _) (by omega)
  · rw [ob_eq l1, if00, ob_eq l2, if00]
    exact bc_r1 h0
theorem b_image (h : RR X M) : BC (f_X5_image X) (f_X6_image M) := by
  obtain ⟨hL, hT, h3, h4, h5, h6, h7⟩ := h
  obtain ⟨W', a1, a2, a3, a4⟩ := x_copyW X.2.2.1 X.2.1
  obtain ⟨r, r1, r2⟩ := m_copies M.2.1 M.2.2.1
  rw [f_X5_image, f_X6_image, ob_eq a1, ob_eq r1]
  have h3' := h3
  obtain ⟨-, -, -, -, t, t1, t2, t3⟩ := h3'
  rw [t2, t3]
  exact ⟨_, _, _, rfl, rfl, hL, ⟨hT.1, hT.2⟩, h3, rw_copy h3 a2 a3 a4 r2, rfl, h6, h7⟩
theorem b_on (h : RR X M) : BC (f_X5_on X) (f_X6_on M) := by
  have h0 := h
  obtain ⟨hL, hT, h3, h4, h5, h6, h7⟩ := h
  rw [f_X5_on, f_X6_on, h5]
  by_cases g : M.2.2.2.2.1 = 0
  · rw [if_pos g, if_pos g]
    exact bc_r3 h0
  · obtain ⟨W', a1, a2, a3, a4⟩ := x_copyW X.2.1 X.2.2.1
    obtain ⟨r, r1, r2⟩ := m_copies M.2.2.1 M.2.1
    have w := rw_copy h4 a2 a3 a4 r2
    have w' := w
    obtain ⟨-, -, -, -, t, t1, t2, t3⟩ := w'
    rw [if_neg g, if_neg g, ob_eq a1, ob_eq r1, t2, t3]
    exact ⟨_, _, _, rfl, rfl, hL, ⟨hT.1, hT.2⟩, w, h4, rfl, h6, h7⟩
theorem cnt_far : ∀ j, j < 6 → nI (j + 11) - 11 = nI j ∧ nI (j + 11) - 10 = nI (j + 1) := by decide +kernel
theorem b_count (h : RR X M) (p : Int32) : BV (f_X5_count X p) (f_X6_count M p) := by
  obtain ⟨hL, hT, ⟨w1, w2, w3, w4, t, t1, t2, t3⟩, h4, h5, ⟨k, k1, k2, k3, k4⟩, h7⟩ := h
  have hu := uL_lt w1
  have hf := fL_lt w1
  have u1 := w1.2.2.2.2.2.2.2.1.1
  have f1 := w1.2.2.2.2.2.2.2.2.1
  have u2 : M.2.1 2 = nI (uL X.2.1.1) := w2.2.1.trans u1
  have f2 : M.2.1 3 = nI (fL X.2.1.1) := w2.2.2.1.trans f1
  rw [f_X5_count, f_X6_count]
  by_cases p0 : p = 0
  · rw [if_pos p0, p0, if_pos (show (0 : Int32) ≤ 10 by decide), f_X6_count_b22, if_pos rfl, w2.1]
    exact ⟨_, rfl, rfl⟩
  by_cases p1 : p = 1
  · rw [if_neg p0, if_pos p1, p1, if_pos (show (1 : Int32) ≤ 10 by decide), f_X6_count_b22, if_neg (by decide), if_pos rfl, t2, t3]
    exact ⟨_, rfl, rfl⟩
  by_cases p2 : p = 2
  · rw [if_neg p0, if_neg p1, if_pos p2, p2, if_pos (show (2 : Int32) ≤ 10 by decide), f_X6_count_b22, if_neg (by decide), if_neg (by decide), if_pos rfl, u1, u2, ob_eq (bitCount7 _ hu), ob_eq (bits7 _ hu)]
    exact ⟨_, rfl, rfl⟩
  by_cases p3 : p = 3
  · rw [if_neg p0, if_neg p1, if_neg p2, if_pos p3, p3, if_pos (show (3 : Int32) ≤ 10 by decide), f_X6_count_b22, if_neg (by decide), if_neg (by decide), if_neg (by decide), if_pos rfl, ob_eq (x_worthOfAllNew w1), ob_eq (m_allNew w2 w1)]
    exact ⟨_, rfl, rfl⟩
  by_cases p4 : p = 4
  · rw [if_neg p0, if_neg p1, if_neg p2, if_neg p3, if_pos p4, p4, if_pos (show (4 : Int32) ≤ 10 by decide), f_X6_count_b22, if_neg (by decide), if_neg (by decide), if_neg (by decide), if_neg (by decide), if_pos rfl, w4.1]
    exact ⟨_, rfl, rfl⟩
  by_cases p5 : p = 5
  · rw [if_neg p0, if_neg p1, if_neg p2, if_neg p3, if_neg p4, if_pos p5, p5, if_pos (show (5 : Int32) ≤ 10 by decide), f_X6_count_b22, if_neg (by decide), if_neg (by decide), if_neg (by decide), if_neg (by decide), if_neg (by decide), if_pos rfl, k2, k3]
    exact ⟨_, rfl, rfl⟩
  by_cases p6 : p = 6
  · rw [if_neg p0, if_neg p1, if_neg p2, if_neg p3, if_neg p4, if_neg p5, if_pos p6, p6, if_pos (show (6 : Int32) ≤ 10 by decide), f_X6_count_b22, if_neg (by decide), if_neg (by decide), if_neg (by decide), if_neg (by decide), if_neg (by decide), if_neg (by decide), if_pos rfl, hT.1]
    exact ⟨_, rfl, rfl⟩
  by_cases p7 : p = 7
  · rw [if_neg p0, if_neg p1, if_neg p2, if_neg p3, if_neg p4, if_neg p5, if_neg p6, if_pos p7, p7, if_pos (show (7 : Int32) ≤ 10 by decide), f_X6_count_b22, if_neg (by decide), if_neg (by decide), if_neg (by decide), if_neg (by decide), if_neg (by decide), if_neg (by decide), if_neg (by decide), if_pos rfl, f1, f2, ob_eq (bitCount7 _ hf), ob_eq (bits7 _ hf)]
    exact ⟨_, rfl, rfl⟩
  have rest : f_X6_count_b22 M p = some (-9) := by rw [f_X6_count_b22, if_neg p0, if_neg p1, if_neg p2, if_neg p3, if_neg p4, if_neg p5, if_neg p6, if_neg p7]
  rw [if_neg p0, if_neg p1, if_neg p2, if_neg p3, if_neg p4, if_neg p5, if_neg p6, if_neg p7]
  by_cases a : p ≤ 10
  · rw [if_pos a, if_pos a, f_X5_count_b154, rest]
    exact ⟨_, rfl, rfl⟩
  rw [if_neg a, if_neg a]
  rcases zcase p with z | ⟨n, hn, rfl⟩
  · exact absurd (zlt_le (zneg_le z (k := 10) (by omega))) a
  have a10 : 10 < n := Nat.lt_of_not_le (fun z => a ((nI_leI (b := 10) hn (by omega)).mpr z))
  by_cases b : n ≤ 16
  · obtain ⟨j, rfl⟩ : ∃ j, n = j + 11 := ⟨n - 11, by omega⟩
    obtain ⟨c1, c2⟩ := cnt_far j (by omega)
    rw [if_neg (show ¬ (16 : Int32) < nI (j + 11) from fun z => absurd ((nI_ltI (a := 16) (by omega) hn).mp z) (by omega)), c1, if_pos (zin (by omega) (by omega)), if_neg (show ¬ (17 : Int32) ≤ nI (j + 11) from fun z => absurd ((nI_leI (a := 17) (by omega) hn).mp z) (by omega)), c2, if_pos (zin (by omega) (by omega)), zclamp (by omega), zclamp (by omega), h7 j (by omega)]
    exact ⟨_, rfl, rfl⟩
  · rw [if_pos (show (16 : Int32) < nI n from (nI_ltI (a := 16) (by omega) hn).mpr (by omega)), if_pos (show (17 : Int32) ≤ nI n from (nI_leI (a := 17) (by omega) hn).mpr (by omega)), f_X5_count_b154, rest]
    exact ⟨_, rfl, rfl⟩
end C
