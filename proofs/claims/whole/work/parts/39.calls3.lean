/-! the calls, one by one: fitting to more -/
section C
variable {X : ST_X5} {M : ST_X6}
theorem b_fitting (h : RR X M) (p q : Int32) : BC (f_X5_fitting X p q) (f_X6_fitting M p q) := by
  have h0 := h
  obtain ⟨hL, hT, ⟨w1, w2, w3, w4, t, t1, t2, t3⟩, h4, h5, h6, h7⟩ := h
  have n12 := w3.1.2
  have sz : M.2.1 4 = nI (nB X.2.1.2.1) := w4.1.trans w3.1.1
  rw [f_X5_fitting, f_X6_fitting, w3.1.1, sz]
  rcases isIn3 p (nI (nB X.2.1.2.1)) rfl (by omega) with ⟨i, hi, rfl, y1, y2, y3⟩ | ⟨y1, y3⟩ | ⟨y1, y2, y3⟩
  · have xt := x_fit w1 w3 hi true
    have xf := x_fit w1 w3 hi false
    have mt := m_fit w2 w1 w4 w3 hi true
    have mf := m_fit w2 w1 w4 w3 hi false
    rw [if_pos (show true = true from rfl)] at xt mt
    rw [if_neg (by decide)] at xf mf
    rw [if_neg y1, if_pos y2, ob_eq y3, if10]
    rcases two_cases q with ⟨rfl, q2⟩ | ⟨rfl, q2⟩ | ⟨q1, q2⟩ | ⟨q1, q3, q2⟩
    · rw [if_neg (show ¬ (0 : Int32) < 0 by decide), if_pos (show (0 : Int32) ≤ 1 by decide), if_neg (show ¬ (0 : Int32) = 1 by decide), ob_eq q2, if10, if_neg (show ¬ (0 : Int32) = 1 by decide), f_X5_fitting_b55, f_X6_fitting_b41, ob_eq xf, ob_eq mf]
      exact ⟨_, _, _, rfl, rfl, h0⟩
    · rw [if_neg (show ¬ (1 : Int32) < 0 by decide), if_pos (show (1 : Int32) ≤ 1 by decide), if_pos (show (1 : Int32) = 1 from rfl), ob_eq q2, if10, if_pos (show (1 : Int32) = 1 from rfl), f_X5_fitting_b55, f_X6_fitting_b41, ob_eq xt, ob_eq mt]
      exact ⟨_, _, _, rfl, rfl, h0⟩
    · rw [if_pos q1, f_X5_fitting_b33, ob_eq q2, if00]
      exact bc_r2 h0
    · rw [if_neg q1, if_neg q3, f_X5_fitting_b33, ob_eq q2, if00]
      exact bc_r2 h0
  · rw [if_pos y1, f_X5_fitting_b18, ob_eq y3, if00]
    exact bc_r1 h0
  · rw [if_neg y1, if_neg y2, f_X5_fitting_b18, ob_eq y3, if00]
    exact bc_r1 h0
theorem b_madeUp (h : RR X M) : BV (f_X5_madeUp X) (f_X6_madeUp M) := by
  obtain ⟨hL, hT, ⟨w1, w2, w3, w4, t, t1, t2, t3⟩, h4, h5, h6, h7⟩ := h
  rw [f_X5_madeUp, f_X6_madeUp, ob_eq (x_mu w1 w3), ob_eq (m_mu w2 w1 w4 w3)]
  exact ⟨_, rfl, rfl⟩
theorem b_liars (h : RR X M) : BV (f_X5_liars X) (f_X6_liars M) := by
  obtain ⟨hL, hT, ⟨w1, w2, w3, w4, t, t1, t2, t3⟩, h4, h5, h6, h7⟩ := h
  exact ⟨_, x_liars w1 w3, m_liars w2 w1 w4 w3⟩
theorem b_sure (h : RR X M) : BV (f_X5_sure X) (f_X6_sure M) := by
  obtain ⟨hL, hT, ⟨w1, w2, w3, w4, t, t1, t2, t3⟩, h4, h5, h6, h7⟩ := h
  exact ⟨_, x_sure w1 w3, m_sure w2 w1 w4 w3⟩
theorem b_many (h : RR X M) : BV (f_X5_many X) (f_X6_many M) := by
  obtain ⟨hL, hT, ⟨w1, w2, w3, w4, t, t1, t2, t3⟩, h4, h5, h6, h7⟩ := h
  exact ⟨_, x_many w3, m_many w4 w3⟩
theorem b_more (h : RR X M) : BV (f_X5_more X) (f_X6_more M) := by
  obtain ⟨hL, hT, ⟨w1, w2, w3, w4, t, t1, t2, t3⟩, h4, h5, h6, h7⟩ := h
  rw [f_X5_more, ob_eq (x_more w1)]
  exact ⟨_, rfl, m_more w2 w1⟩
theorem b_clash (h : RR X M) (p : Int32) : BC (f_X5_clash X p) (f_X6_clash M p) := by
  have h0 := h
  obtain ⟨hL, hT, ⟨w1, w2, w3, w4, t, t1, t2, t3⟩, h4, h5, h6, h7⟩ := h
  have n12 := w3.1.2
  rw [f_X5_clash, f_X6_clash]
  rcases two_cases p with ⟨rfl, q2⟩ | ⟨rfl, q2⟩ | ⟨q1, q2⟩ | ⟨q1, q3, q2⟩
  · rw [if_neg (show ¬ (0 : Int32) < 0 by decide), if_pos (show (0 : Int32) ≤ 1 by decide), ob_eq q2, if10]
    have z := m_clash_out w4 w3 0 4096 0 0 (-9) (Or.inl rfl) (Nat.zero_le _) (by omega)
    rw [if_pos rfl] at z
    exact bc_same h0 (x_clash_out0 w3 4096 0 0 (Nat.zero_le _) (by omega)) z
  · rw [if_neg (show ¬ (1 : Int32) < 0 by decide), if_pos (show (1 : Int32) ≤ 1 by decide), ob_eq q2, if10]
    have z := m_clash_out w4 w3 1 4096 0 0 (-9) (Or.inl rfl) (Nat.zero_le _) (by omega)
    rw [if10, od, if_pos rfl] at z
    exact bc_same h0 (x_clash_out1 w3 0 4096 0 (Nat.zero_le _) (by omega)) z
  · rw [if_pos q1, f_X5_clash_b9, ob_eq q2, if00]
    exact bc_r2 h0
  · rw [if_neg q1, if_neg q3, f_X5_clash_b9, ob_eq q2, if00]
    exact bc_r2 h0
theorem b_pairs (h : RR X M) (q p : Int32) : BC (f_X5_pairs X q p) (f_X6_pairs M q p) := by
  have h0 := h
  obtain ⟨hL, hT, ⟨w1, w2, w3, w4, t, t1, t2, t3⟩, h4, h5, h6, h7⟩ := h
  have n7 := w1.n7
  rw [f_X5_pairs, f_X6_pairs]
  rcases rg_cases q 1 60 (a := 1) (b := 60) rfl rfl (by omega) (by omega) with ⟨q1, q2⟩ | ⟨q1, q3, -, q2⟩ | ⟨n, n1, n2, rfl, q1, q3, q2⟩
  · rw [if_neg q1, ob_eq q2, if4m0, f_X6_pairs_b23, if4m0]
    exact bc_r4 h0
  · rw [if_pos q1, if_neg q3, ob_eq q2, if6m0, f_X6_pairs_b23, if6m0]
    exact bc_r6 h0
  · rw [if_pos q1, if_pos q3, ob_eq q2, if00]
    rcases two_cases p with ⟨rfl, q2⟩ | ⟨rfl, q2⟩ | ⟨q1, q2⟩ | ⟨q1, q3, q2⟩
    · rw [if_neg (show ¬ (0 : Int32) < 0 by decide), if_pos (show (0 : Int32) ≤ 1 by decide), ob_eq q2, if10, f_X6_pairs_b23, if00]
      have z := m_pairs_out w2 w1 t3 (n := n) (by omega) (by omega) 0 4096 0 0 (-9) (Or.inl rfl) (Nat.zero_le _) (by omega)
      rw [if_pos rfl] at z
      exact bc_same h0 (x_pairs_out0 w1 t2 (n := n) (by omega) (by omega) 4096 0 0 (Nat.zero_le _) (by omega)) z
    · rw [if_neg (show ¬ (1 : Int32) < 0 by decide), if_pos (show (1 : Int32) ≤ 1 by decide), ob_eq q2, if10, f_X6_pairs_b23, if00]
      have z := m_pairs_out w2 w1 t3 (n := n) (by omega) (by omega) 1 4096 0 0 (-9) (Or.inl rfl) (Nat.zero_le _) (by omega)
      rw [if10, od, if_pos rfl] at z
      exact bc_same h0 (x_pairs_out1 w1 t2 (n := n) (by omega) (by omega) 0 4096 0 (Nat.zero_le _) (by omega)) z
    · rw [if_pos q1, f_X5_pairs_b34, ob_eq q2, if00, f_X6_pairs_b23, if2m0]
      exact bc_r2 h0
    · rw [if_neg q1, if_neg q3, f_X5_pairs_b34, ob_eq q2, if00, f_X6_pairs_b23, if2m0]
      exact bc_r2 h0
end C
