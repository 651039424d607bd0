/-! the calls, one by one: engine, turn, at, pass, stand, rest, underline, fresh, where -/
theorem if10 {α : Type} (a b : α) : (if (1 : Int32) = 0 then a else b) = b := if_neg (by decide)
theorem if00 {α : Type} (a b : α) : (if (0 : Int32) = 0 then a else b) = a := if_pos rfl
theorem if1m0 {α : Type} (a b : α) : (if (-1 : Int32) = 0 then a else b) = b := if_neg (by decide)
theorem if2m0 {α : Type} (a b : α) : (if (-2 : Int32) = 0 then a else b) = b := if_neg (by decide)
theorem if4m0 {α : Type} (a b : α) : (if (-4 : Int32) = 0 then a else b) = b := if_neg (by decide)
theorem if6m0 {α : Type} (a b : α) : (if (-6 : Int32) = 0 then a else b) = b := if_neg (by decide)
theorem rg_cases (p lo hi : Int32) {a b : Nat} (hlo : lo = nI a) (hhi : hi = nI b) (ha : a < 2 ^ 31) (hb : b < 2 ^ 31) : (¬ lo ≤ p ∧ f_X6_within p lo hi = some (-4)) ∨ (lo ≤ p ∧ ¬ p ≤ hi ∧ (∃ n, b < n ∧ n < 2 ^ 31 ∧ p = nI n) ∧ f_X6_within p lo hi = some (-6)) ∨ (∃ n, a ≤ n ∧ n ≤ b ∧ p = nI n ∧ lo ≤ p ∧ p ≤ hi ∧ f_X6_within p lo hi = some 0) := by
  rw [hlo, hhi]
  rcases within_cases p ha hb with ⟨q1, q2⟩ | ⟨q1, ⟨n, n1, n2, rfl⟩, q2⟩ | ⟨n, n1, n2, rfl, q1, q2⟩
  · exact Or.inl ⟨q1, q2⟩
  · exact Or.inr (Or.inl ⟨q1, fun z => absurd ((nI_leI n2 hb).mp z) (by omega), ⟨n, n1, n2, rfl⟩, q2⟩)
  · exact Or.inr (Or.inr ⟨n, n1, n2, rfl, q1, (nI_leI (by omega) hb).mpr n2, q2⟩)
theorem two_cases (p : Int32) : (p = 0 ∧ f_X6_isIn p 2 = some 1) ∨ (p = 1 ∧ f_X6_isIn p 2 = some 1) ∨ (p < 0 ∧ f_X6_isIn p 2 = some 0) ∨ (¬ p < 0 ∧ ¬ p ≤ 1 ∧ f_X6_isIn p 2 = some 0) := by
  by_cases h0 : p = 0
  · exact Or.inl ⟨h0, by rw [h0]; decide +kernel⟩
  · by_cases h1 : p = 1
    · exact Or.inr (Or.inl ⟨h1, by rw [h1]; decide +kernel⟩)
    · rcases zcase p with q | ⟨n, hn, rfl⟩
      · exact Or.inr (Or.inr (Or.inl ⟨q, by rw [f_X6_isIn, if_pos q, f_X6_isIn_b13]⟩))
      · have a0 : n ≠ 0 := fun z => h0 (by subst z; rfl)
        have a1 : n ≠ 1 := fun z => h1 (by subst z; rfl)
        refine Or.inr (Or.inr (Or.inr ⟨zn_neg hn, fun z => absurd ((nI_leI (b := 1) hn (by omega)).mp z) (by omega), ?_⟩))
        rw [f_X6_isIn, if_neg (zn_neg hn), if_pos (show (2 : Int32) ≤ nI n from (nI_leI (a := 2) (by omega) hn).mpr (by omega)), f_X6_isIn_b13]
/-- a list without one -/
def clr (L e : Nat) : Nat := if L.testBit e then L - 2 ^ e else L
theorem clr_le (L e : Nat) : clr L e ≤ L := by
  rw [clr]; split
  · exact Nat.sub_le _ _
  · exact Nat.le_refl _
set_option maxRecDepth 100000 in
theorem ul_off : ∀ L, L < 128 → ∀ e, e < 7 → nI L &&& (((1 : Int32) <<< (nI e &&& 31)) ^^^ (-1)) = nI (clr L e) := by decide +kernel
set_option maxRecDepth 100000 in
theorem ul_off2 : ∀ L, L < 128 → ∀ e, e < 7 → (nI L &&& (((1 : Int32) <<< (nI e &&& 31)) ^^^ (-1))) ||| ((0 : Int32) <<< (nI e &&& 31)) = nI (clr L e) := by decide +kernel
set_option maxRecDepth 100000 in
theorem ul_on : ∀ L, L < 128 → ∀ e, e < 7 → (nI L &&& (((1 : Int32) <<< (nI e &&& 31)) ^^^ (-1))) ||| ((1 : Int32) <<< (nI e &&& 31)) = nI (L ||| 2 ^ e) := by decide +kernel
set_option maxRecDepth 100000 in
theorem ul_on2 : ∀ L, L < 128 → ∀ e, e < 7 → nI L ||| ((1 : Int32) <<< (nI e &&& 31)) = nI (L ||| 2 ^ e) := by decide +kernel
theorem sF_low {F : ST_X1} {s s' : Nat → Int32} (h7 : nE F ≤ 7) (hs : sF F s) (k : ∀ j, j < 82 → j ≠ 1 → j ≠ 4 → s' j = s j) : sF F s' := by
  obtain ⟨h1, h2, h3, h4⟩ := hs
  refine ⟨by rw [k 0 (by omega) (by omega) (by omega)]; exact h1, by rw [k 2 (by omega) (by omega) (by omega)]; exact h2, by rw [k 3 (by omega) (by omega) (by omega)]; exact h3, fun e he => ?_⟩
  obtain ⟨g1, g2, g3, g4, g5⟩ := h4 e he
  refine ⟨by rw [k _ (by omega) (by omega) (by omega)]; exact g1, by rw [k _ (by omega) (by omega) (by omega)]; exact g2, by rw [k _ (by omega) (by omega) (by omega)]; exact g3, by rw [k _ (by omega) (by omega) (by omega)]; exact g4, fun d hd => by rw [k _ (by omega) (by omega) (by omega)]; exact g5 d hd⟩
theorem sF_one {F : ST_X1} {s : Nat → Int32} (h7 : nE F ≤ 7) (hs : sF F s) (v : Int32) : sF F (upd s 1 v) := sF_low h7 hs (fun j _ h1 _ => pk_un h1)
theorem sB_low {B : ST_X0} {s s' : Nat → Int32} (hb : sB B s) (k4 : s' 4 = s 4) (k : ∀ j, 82 ≤ j → s' j = s j) : sB B s' := by
  obtain ⟨h1, h2⟩ := hb
  refine ⟨by rw [k4]; exact h1, fun i hi => ?_⟩
  obtain ⟨g1, g2, g3, g4⟩ := h2 i hi
  exact ⟨by rw [k _ (by omega)]; exact g1, by rw [k _ (by omega)]; exact g2, by rw [k _ (by omega)]; exact g3, by rw [k _ (by omega)]; exact g4⟩
section C
variable {X : ST_X5} {M : ST_X6}
theorem b_engine (h : RR X M) (p q : Int32) : BC (f_X5_engine X p q) (f_X6_engine M p q) := by
  have h0 := h
  obtain ⟨hL, hT, ⟨w1, w2, w3, w4, t, t1, t2, t3⟩, h4, h5, h6, h7⟩ := h
  have n7 := w1.n7
  rw [f_X5_engine, f_X6_engine]
  rcases eng_cases w1 w2 p with ⟨e, he, rfl, k1, k2⟩ | ⟨k1, k2⟩
  · rw [ob_eq k1, if10, ob_eq k2, if10]
    have i7 : inB (nI e) 7 := zin (by omega) (by omega)
    by_cases q0 : q = 0
    · rw [if_pos q0, if_pos q0, q0, ob_eq (x_number w1 he), f_X6_engine_b56, ob_eq (m_number w2 w1 he)]
      exact ⟨_, _, _, rfl, rfl, h0⟩
    rw [if_neg q0, if_neg q0]
    by_cases q1 : q = 1
    · rw [if_pos q1, if_pos q1, q1, if_pos i7, zclamp (by omega), (w1.2.2.1 e he).1, f_X6_engine_b56, ob_eq (m_kind w2 w1 he)]
      exact ⟨_, _, _, rfl, rfl, h0⟩
    rw [if_neg q1, if_neg q1]
    by_cases q2 : q = 2
    · rw [if_pos q2, if_pos q2, q2, if_pos i7, zclamp (by omega), (w1.2.2.2.1 e he).1, f_X6_engine_b56, ob_eq (m_figure w2 w1 he)]
      exact ⟨_, _, _, rfl, rfl, h0⟩
    rw [if_neg q2, if_neg q2]
    by_cases q3 : q = 3
    · rw [if_pos q3, if_pos q3, q3, if_pos i7, zclamp (by omega), f_X6_engine_b56, ob_eq (m_joined w2 w1 he)]
      exact ⟨_, _, _, rfl, rfl, h0⟩
    rw [if_neg q3, if_neg q3]
    by_cases q4 : q = 4
    · rw [if_pos q4, if_pos q4, w2.2.1]
      exact ⟨_, _, _, rfl, rfl, h0⟩
    rw [if_neg q4, if_neg q4]
    by_cases q5 : q = 5
    · rw [if_pos q5, if_pos q5, w2.2.2.1]
      exact ⟨_, _, _, rfl, rfl, h0⟩
    rw [if_neg q5, if_neg q5]
    by_cases q6 : q = 6
    · have hu := uL_lt w1
      rw [if_pos q6, if_pos q6, w1.2.2.2.2.2.2.2.1.1, ob_eq (x_isOn w1 he (by omega)), ob_eq (m_isHad w2 w1 he)]
      by_cases g : had X.2.1.1 (uL X.2.1.1) e = true
      · rw [if_pos g, if10, if10]
        exact ⟨_, _, _, rfl, rfl, h0⟩
      · rw [if_neg g, if00, if00]
        exact ⟨_, _, _, rfl, rfl, h0⟩
    rw [if_neg q6, if_neg q6]
    exact bc_r2 h0
  · rw [ob_eq k1, if00, ob_eq k2, if00]
    exact bc_r1 h0
theorem b_turn (h : RR X M) (p q : Int32) : BC (f_X5_turn X p q) (f_X6_turn M p q) := by
  have h0 := h
  obtain ⟨hL, hT, ⟨w1, w2, w3, w4, t, t1, t2, t3⟩, h4, h5, h6, h7⟩ := h
  rw [f_X5_turn, f_X6_turn]
  rcases eng_cases w1 w2 p with ⟨e, he, rfl, k1, k2⟩ | ⟨k1, k2⟩
  · rw [ob_eq k1, if10, ob_eq k2, if10]
    rcases rg_cases q 0 6 (a := 0) (b := 6) rfl rfl (by omega) (by omega) with ⟨q1, q2⟩ | ⟨q1, q3, ⟨n, n1, n2, rfl⟩, q2⟩ | ⟨n, n1, n2, rfl, q1, q3, q2⟩
    · rw [if_neg q1, ob_eq q2, f_X6_turn_b19, if4m0]
      exact bc_r4 h0
    · rw [if_pos q1, if_neg (show ¬ nI n < (7 : Int32) from fun z => absurd ((nI_ltI (b := 7) n2 (by omega)).mp z) (by omega)), ob_eq q2, f_X6_turn_b19, if6m0]
      exact bc_r6 h0
    · have m7 : n % 7 = n := Nat.mod_eq_of_lt (by omega)
      have mt := m_turnOf w2 w1 he (d := n) (by omega)
      rw [m7] at mt
      rw [if_pos q1, if_pos (show nI n < (7 : Int32) from (nI_ltI (b := 7) (by omega) (by omega)).mpr (by omega)), ob_eq (x_turnOf w1 he (by omega)), ob_eq q2, f_X6_turn_b19, if00, ob_eq mt]
      exact ⟨_, _, _, rfl, rfl, h0⟩
  · rw [ob_eq k1, if00, ob_eq k2, if00, f_X6_turn_b19, if1m0]
    exact bc_r1 h0
theorem b_at (h : RR X M) (p q : Int32) : BC (f_X5_at X p q) (f_X6_at M p q) := by
  have h0 := h
  obtain ⟨hL, hT, ⟨w1, w2, w3, w4, t, t1, t2, t3⟩, h4, h5, h6, h7⟩ := h
  rw [f_X5_at, f_X6_at]
  rcases eng_cases w1 w2 p with ⟨e, he, rfl, k1, k2⟩ | ⟨k1, k2⟩
  · rw [ob_eq k1, if10, ob_eq k2, if10]
    rcases rg_cases q 0 1100 (a := 0) (b := 1100) rfl rfl (by omega) (by omega) with ⟨q1, q2⟩ | ⟨q1, q3, -, q2⟩ | ⟨n, n1, n2, rfl, q1, q3, q2⟩
    · rw [if_neg q1, ob_eq q2, f_X6_at_b20, if4m0]
      exact bc_r4 h0
    · rw [if_pos q1, if_neg q3, ob_eq q2, f_X6_at_b20, if6m0]
      exact bc_r6 h0
    · rw [if_pos q1, if_pos q3, ob_eq (x_placeOn w1 he (by omega)), ob_eq q2, f_X6_at_b20, if00, ob_eq (m_isAt w2 w1 he (by omega))]
      exact ⟨_, _, _, rfl, rfl, h0⟩
  · rw [ob_eq k1, if00, ob_eq k2, if00, f_X6_at_b20, if1m0]
    exact bc_r1 h0
theorem b_pass (h : RR X M) (p q : Int32) : BC (f_X5_pass X p q) (f_X6_pass M p q) := by
  have h0 := h
  obtain ⟨hL, hT, ⟨w1, w2, w3, w4, t, t1, t2, t3⟩, h4, h5, h6, h7⟩ := h
  rw [f_X5_pass, f_X6_pass]
  rcases place_cases p with ⟨e, he, rfl, k1, k2⟩ | ⟨k1, k2⟩
  · rw [ob_eq k1, if10, ob_eq k2, if10]
    rcases rg_cases q 0 1100 (a := 0) (b := 1100) rfl rfl (by omega) (by omega) with ⟨q1, q2⟩ | ⟨q1, q3, -, q2⟩ | ⟨n, n1, n2, rfl, q1, q3, q2⟩
    · rw [if_neg q1, ob_eq q2, f_X6_pass_b19, if4m0]
      exact bc_r4 h0
    · rw [if_pos q1, if_neg q3, ob_eq q2, f_X6_pass_b19, if6m0]
      exact bc_r6 h0
    · rw [if_pos q1, if_pos q3, ob_eq (x_passing w1 (by omega) (by omega)), ob_eq q2, f_X6_pass_b19, if00, ob_eq (m_passes w2 w1 (by omega) (by omega))]
      exact ⟨_, _, _, rfl, rfl, h0⟩
  · rw [ob_eq k1, if00, ob_eq k2, if00, f_X6_pass_b19, if1m0]
    exact bc_r1 h0
theorem b_stand (h : RR X M) (p : Int32) : BC (f_X5_stand X p) (f_X6_stand M p) := by
  have h0 := h
  obtain ⟨hL, hT, ⟨w1, w2, w3, w4, t, t1, t2, t3⟩, h4, h5, h6, h7⟩ := h
  have u1 := w1.2.2.2.2.2.2.2.1
  rw [f_X5_stand, f_X6_stand]
  rcases place_cases p with ⟨e, he, rfl, k1, k2⟩ | ⟨k1, k2⟩
  · have pl := pas_lt7 w1 e t
    rw [ob_eq k1, if10, t2, ob_eq k2, if10, t3]
    by_cases g : t < 999
    · rw [if_pos (show nI t < (999 : Int32) from (nI_ltI (b := 999) (by omega) (by omega)).mpr g), ob_eq (x_passing w1 (by omega) (by omega)), ob_eq (x_newOf w1 (by omega)), ob_eq (x_worth w1 (nw_lt _ _ _)), u1.1, zor, nI_1, if_neg (show ¬ nI t = (999 : Int32) from fun z => absurd ((zeq (b := 999) (by omega) (by omega)).mp z) (by omega)), f_X6_stand_b29, if00, t3, ob_eq (m_stands w2 w1 (by omega) (by omega))]
      refine ⟨_, _, _, rfl, rfl, hL, ⟨hT.1, hT.2⟩, ⟨setU_WF w1 (Nat.or_lt_two_pow u1.2 (pas_lt _ _ _)), sF_one (show nE (setU X.2.1.1 _) ≤ 7 from w1.n7) (setU_sF w2 _) _, w3, sB_low w4 rfl ?_, t + 1, by omega, rfl, ?_⟩, h4, h5, h6, h7⟩
      · intro j hj
        show upd (upd M.2.1 2 _) 1 _ j = _
        rw [pk_un (by omega), pk_un (by omega)]
      · show M.2.1 1 + 1 = nI (t + 1)
        rw [t3, nI_1]
    · rw [if_neg (show ¬ nI t < (999 : Int32) from fun z => g ((nI_ltI (b := 999) (by omega) (by omega)).mp z)), if_pos (show nI t = (999 : Int32) from (zeq (b := 999) (by omega) (by omega)).mpr (by omega)), f_X6_stand_b29, if6m0]
      exact bc_r6 h0
  · rw [ob_eq k1, if00, ob_eq k2, if00, f_X6_stand_b29, if1m0]
    exact bc_r1 h0
theorem b_rest (h : RR X M) (p : Int32) : BC (f_X5_rest X p) (f_X6_rest M p) := by
  have h0 := h
  obtain ⟨hL, hT, ⟨w1, w2, w3, w4, t, t1, t2, t3⟩, h4, h5, h6, h7⟩ := h
  rw [f_X5_rest, f_X6_rest]
  rcases rg_cases p 1 60 (a := 1) (b := 60) rfl rfl (by omega) (by omega) with ⟨q1, q2⟩ | ⟨q1, q3, ⟨n, n1, n2, rfl⟩, q2⟩ | ⟨n, n1, n2, rfl, q1, q3, q2⟩
  · rw [if_neg q1, ob_eq q2, if4m0, f_X6_rest_b29, if4m0]
    exact bc_r4 h0
  · rw [if_pos q1, if_pos (show (60 : Int32) < nI n from (nI_ltI (a := 60) (by omega) n2).mpr n1), f_X5_rest_b33, ob_eq q2, if6m0, f_X6_rest_b29, if6m0]
    exact bc_r6 h0
  · rw [if_pos q1, if_neg (show ¬ (60 : Int32) < nI n from fun z => absurd ((nI_ltI (a := 60) (by omega) (by omega)).mp z) (by omega)), t2, nI_add, ob_eq q2, if00, t3, nI_add]
    by_cases g : t + n ≤ 999
    · have g2 : nI (t + n) ≤ (999 : Int32) := (nI_leI (b := 999) (by omega) (by omega)).mpr g
      rw [if_pos g2, if_pos g2, f_X6_rest_b29, if00, t3, nI_add, pk_us]
      refine ⟨_, _, _, rfl, rfl, hL, ⟨hT.1, hT.2⟩, ⟨w1, sF_one w1.n7 w2 _, w3, sB_low w4 rfl ?_, t + n, g, rfl, rfl⟩, h4, h5, h6, h7⟩
      intro j hj
      show upd M.2.1 1 _ j = _
      rw [pk_un (by omega)]
    · have g2 : ¬ nI (t + n) ≤ (999 : Int32) := fun z => g ((nI_leI (b := 999) (by omega) (by omega)).mp z)
      rw [if_neg g2, if_neg g2, f_X5_rest_b33, f_X6_rest_b29, if6m0]
      exact bc_r6 h0
theorem b_underline (h : RR X M) (p q : Int32) : BC (f_X5_underline X p q) (f_X6_underline M p q) := by
  have h0 := h
  obtain ⟨hL, hT, ⟨w1, w2, w3, w4, t, t1, t2, t3⟩, h4, h5, h6, h7⟩ := h
  have n7 := w1.n7
  have u1 := w1.2.2.2.2.2.2.2.1
  have hu := uL_lt w1
  have u2 : M.2.1 2 = nI (uL X.2.1.1) := w2.2.1.trans u1.1
  have i2 : inB 2 130 := zin (k := 2) (by omega) (by omega)
  have c2 : (2 : Int32).toNatClampNeg = 2 := zclamp (k := 2) (by omega)
  rw [f_X5_underline, f_X6_underline]
  rcases eng_cases w1 w2 p with ⟨e, he, rfl, k1, k2⟩ | ⟨k1, k2⟩
  · have new : ∀ L : Nat, L < 2 ^ nE X.2.1.1 → RW (setU X.2.1.1 L, X.2.1.2.1, X.2.1.2.2) (upd M.2.1 2 (nI L)) := fun L hL' => ⟨setU_WF w1 hL', setU_sF w2 L, w3, sB_low w4 (pk_un (by omega)) (fun j hj => pk_un (by omega)), t, t1, t2, by rw [pk_un (by omega), t3]⟩
    rw [ob_eq k1, if10, ob_eq k2, if10]
    rcases two_cases q with ⟨rfl, q2⟩ | ⟨rfl, q2⟩ | ⟨q1, q2⟩ | ⟨q1, q3, q2⟩
    · rw [if_neg (show ¬ (0 : Int32) < 0 by decide), if_pos (show (0 : Int32) ≤ 1 by decide), u1.1, ul_off2 _ hu e (by omega), ob_eq q2, if10, f_X6_underline_b26, if00, if_neg (show ¬ (0 : Int32) = 1 by decide), u2, ul_off _ hu e (by omega), f_X6_underline_b84, if_pos i2, c2]
      exact ⟨_, _, _, rfl, rfl, hL, ⟨hT.1, hT.2⟩, new _ (Nat.lt_of_le_of_lt (clr_le _ _) u1.2), h4, h5, h6, h7⟩
    · rw [if_neg (show ¬ (1 : Int32) < 0 by decide), if_pos (show (1 : Int32) ≤ 1 by decide), u1.1, ul_on _ hu e (by omega), ob_eq q2, if10, f_X6_underline_b26, if00, if_pos (show (1 : Int32) = 1 from rfl), u2, ul_on2 _ hu e (by omega), f_X6_underline_b84, if_pos i2, c2]
      exact ⟨_, _, _, rfl, rfl, hL, ⟨hT.1, hT.2⟩, new _ (Nat.or_lt_two_pow u1.2 (Nat.pow_lt_pow_right (by omega) he)), h4, h5, h6, h7⟩
    · rw [if_pos q1, f_X5_underline_b31, ob_eq q2, if00, f_X6_underline_b26, if2m0]
      exact bc_r2 h0
    · rw [if_neg q1, if_neg q3, f_X5_underline_b31, ob_eq q2, if00, f_X6_underline_b26, if2m0]
      exact bc_r2 h0
  · rw [ob_eq k1, if00, ob_eq k2, if00, f_X6_underline_b26, if1m0]
    exact bc_r1 h0
theorem b_fresh (h : RR X M) (p q : Int32) : BC (f_X5_fresh X p q) (f_X6_fresh M p q) := by
  have h0 := h
  obtain ⟨hL, hT, ⟨w1, w2, w3, w4, t, t1, t2, t3⟩, h4, h5, h6, h7⟩ := h
  rw [f_X5_fresh, f_X6_fresh]
  rcases place_cases p with ⟨e, he, rfl, k1, k2⟩ | ⟨k1, k2⟩
  · rw [ob_eq k1, if10, ob_eq k2, if10]
    rcases rg_cases q 1 14 (a := 1) (b := 14) rfl rfl (by omega) (by omega) with ⟨q1, q2⟩ | ⟨q1, q3, -, q2⟩ | ⟨n, n1, n2, rfl, q1, q3, q2⟩
    · rw [if_neg q1, ob_eq q2, f_X6_fresh_b18, if4m0]
      exact bc_r4 h0
    · rw [if_pos q1, if_neg q3, ob_eq q2, f_X6_fresh_b18, if6m0]
      exact bc_r6 h0
    · rw [if_pos q1, if_pos q3, ob_eq (x_fresh w1 t2 (by omega) (by omega) (by omega)), ob_eq q2, f_X6_fresh_b18, if00, ob_eq (m_fresh w2 w1 t3 (by omega) (by omega) (by omega))]
      exact ⟨_, _, _, rfl, rfl, h0⟩
  · rw [ob_eq k1, if00, ob_eq k2, if00, f_X6_fresh_b18, if1m0]
    exact bc_r1 h0
theorem b_where (h : RR X M) (q : Int32) : BC (f_X5_where X q) (f_X6_where M q) := by
  have h0 := h
  obtain ⟨hL, hT, ⟨w1, w2, w3, w4, t, t1, t2, t3⟩, h4, h5, h6, h7⟩ := h
  rw [f_X5_where, f_X6_where]
  rcases rg_cases q 1 14 (a := 1) (b := 14) rfl rfl (by omega) (by omega) with ⟨q1, q2⟩ | ⟨q1, q3, -, q2⟩ | ⟨n, n1, n2, rfl, q1, q3, q2⟩
  · rw [if_neg q1, ob_eq q2, if4m0]
    exact bc_r4 h0
  · rw [if_pos q1, if_neg q3, ob_eq q2, if6m0]
    exact bc_r6 h0
  · rw [if_pos q1, if_pos q3, ob_eq q2, if00]
    exact bc_same h0 (x_where w1 t2 (by omega) (by omega)) (m_where w2 w1 t3 (by omega) (by omega))
end C
