/-! the reference: who passes, who is had, what is new, what it is worth -/
section M
variable {F : ST_X1} {M : ST_X6}
theorem m_get {M : ST_X6} {e k : Nat} (h : 5 + 11 * e + k < 130) : f_X6_get M (nI e) (nI k) = some (M.2.1 (5 + 11 * e + k)) := by
  rw [f_X6_get, zL5, zL11, pk_mul, nI_add, nI_add, if_pos (zin h (by omega)), zclamp (by omega)]
theorem m_joined (hs : sF F M.2.1) (h : WF F) {e : Nat} (he : e < nE F) : f_X6_get M (nI e) 3 = some (F.2.2.2.1 e) := by
  have h7 := h.n7
  rw [zL3, m_get (by omega), (hs.2.2.2 e he).2.2.2.1]
theorem m_kind (hs : sF F M.2.1) (h : WF F) {e : Nat} (he : e < nE F) : f_X6_get M (nI e) 1 = some (nI (kd F e)) := by
  have h7 := h.n7
  rw [zL1, m_get (by omega), (hs.2.2.2 e he).2.1, (h.2.2.1 e he).1]
theorem m_figure (hs : sF F M.2.1) (h : WF F) {e : Nat} (he : e < nE F) : f_X6_get M (nI e) 2 = some (nI (fg F e)) := by
  have h7 := h.n7
  rw [zL2, m_get (by omega), (hs.2.2.2 e he).2.2.1, (h.2.2.2.1 e he).1]
theorem m_number (hs : sF F M.2.1) (h : WF F) {e : Nat} (he : e < nE F) : f_X6_get M (nI e) 0 = some (nI (nu F e)) := by
  have h7 := h.n7
  rw [zL0, m_get (by omega), Nat.add_zero, (hs.2.2.2 e he).1, (h.2.1 e he).1]
theorem m_turnOf (hs : sF F M.2.1) (h : WF F) {e d : Nat} (he : e < nE F) (hd : d < 2 ^ 31) : f_X6_turnOf M (nI e) (nI d) = some (nI (tn F e (d % 7))) := by
  have h7 := h.n7
  have hm : d % 7 < 7 := Nat.mod_lt _ (by omega)
  rw [f_X6_turnOf, zL7, zL4, pk_rem hd (by omega) (by omega), nI_add, ob_eq (m_get (by omega)), (hs.2.2.2 e he).2.2.2.2 (d % 7) hm, (h.2.2.2.2.2.1 e he _ hm).1]
theorem m_isAt (hs : sF F M.2.1) (h : WF F) {e d : Nat} (he : e < nE F) (hd : d < 2 ^ 31) : f_X6_isAt M (nI e) (nI d) = some (nI (place F e d)) := by
  have h7 := h.n7
  have hm : d % 7 < 7 := Nat.mod_lt _ (by omega)
  have hf := h.2.2.2.1 e he
  have hk := h.2.2.1 e he
  have ht := m_turnOf hs h he hd
  rw [f_X6_isAt, ob_eq (m_figure hs h he), ob_eq (m_kind hs h he), zL7, pk_rem hd (by omega) (by omega), pk_div hd (by omega) (by omega), hs.1, h.size]
  unfold place
  generalize kd F e = k at hk ⊢
  generalize fg F e = f at hf ⊢
  have q : ∀ a : Nat, a < 2 ^ 31 → (nI k = nI a ↔ k = a) := fun a ha => zeq (by omega) ha
  rw [zL1, zL2, zL3, zL4, zL5, zL9]
  simp only [q 1 (by omega), q 2 (by omega), q 3 (by omega), q 4 (by omega), q 5 (by omega)]
  have hd7 : d / 7 < 2 ^ 31 := by omega
  by_cases k1 : k = 1
  · rw [if_pos k1, if_pos k1]
    by_cases g : d % 7 < f
    · rw [if_pos ((nI_ltI (by omega) (by omega)).mpr g), if_pos g, ob_eq ht]
    · rw [if_neg (fun z => g ((nI_ltI (by omega) (by omega)).mp z)), if_neg g]
  · rw [if_neg k1, if_neg k1]
    by_cases k2 : k = 2
    · rw [if_pos k2, if_pos k2, nI_add, if_pos (by rw [zL0, zeq (by omega) (by omega)]; omega), pk_rem hd7 (by omega) (by omega), zL0, zif (zeq (a := d / 7 % (f + 2)) (b := 0) (by have := Nat.mod_lt (d / 7) (show f + 2 > 0 by omega); omega) (by omega))]
      by_cases g : d / 7 % (f + 2) = 0
      · rw [if_pos g, if_pos g]
      · rw [if_neg g, if_neg g, ob_eq ht]
    · rw [if_neg k2, if_neg k2]
      by_cases k3 : k = 3
      · rw [if_pos k3, if_pos k3, pk_rem (by omega) (by omega) (by omega)]
      · rw [if_neg k3, if_neg k3]
        by_cases k4 : k = 4
        · rw [if_pos k4, if_pos k4]
          by_cases g : f ≤ d / 7
          · rw [if_pos ((nI_leI (by omega) (by omega)).mpr g), if_pos g]
          · rw [if_neg (fun z => g ((nI_leI (by omega) (by omega)).mp z)), if_neg g, ob_eq ht]
        · rw [if_neg k4, if_neg k4]
          by_cases k5 : k = 5
          · rw [if_pos k5, if_pos k5, pk_rem hd7 (by omega) (by omega), zif (zeq (a := d / 7 % 2) (b := 1) (by omega) (by omega))]
            by_cases g : d / 7 % 2 = 0
            · rw [if_neg (by omega), if_pos g, f_X6_isAt_b139, ob_eq ht]
            · rw [if_pos (by omega), if_neg g, if_pos (by rw [zL0, zeq (by omega) (by omega)]; omega), nI_add, pk_rem (by omega) (by omega) (by omega), f_X6_isAt_b139]
              by_cases g2 : e + 1 < nE F
              · rw [if_pos g2, Nat.mod_eq_of_lt g2, ob_eq (m_turnOf hs h g2 hd)]
              · have e1 : e + 1 = nE F := by omega
                rw [if_neg g2, e1, Nat.mod_self, ob_eq (m_turnOf hs h (by omega) hd)]
          · rw [if_neg k5, if_neg k5, ob_eq ht]
theorem m_passes_loop (hs : sF F M.2.1) (h : WF F) {p d : Nat} (hp : p < 2 ^ 31) (hd : d < 2 ^ 31) : ∀ (fu i : Nat), i ≤ nE F → nE F - i < fu → f_X6_passes_b5 M fu (nI p) (nI d) (nI (bo (fun e => place F e d == p) i)) (nI i) = some (nI (pas F p d)) := by
  have h7 := h.n7
  intro fu
  induction fu with
  | zero => intro i h1 h2; omega
  | succ fu ih =>
    intro i h1 h2
    rw [f_X6_passes_b5, hs.1, h.size]
    by_cases q : i = nE F
    · rw [if_pos ((nI_leI (by omega) (by omega)).mpr (by omega)), q]
      rfl
    · have hi : i < nE F := by omega
      have hpl := place_le h (d := d) hi
      rw [if_neg (fun z => absurd ((nI_leI (by omega) (by omega)).mp z) (by omega)), ob_eq (m_isAt hs h hi hd), zif (zeq (by omega) hp)]
      have ih' := ih (i + 1) (by omega) (by omega)
      rw [bo] at ih'
      by_cases g : place F i d = p
      · rw [if_pos g, f_X6_passes_b34, zshl (by omega), zor, nI_1]
        rw [if_pos (by simpa using g)] at ih'
        exact ih'
      · rw [if_neg g, f_X6_passes_b34, nI_1]
        rw [if_neg (by simpa using g), Nat.or_zero] at ih'
        exact ih'
theorem m_passes (hs : sF F M.2.1) (h : WF F) {p d : Nat} (hp : p < 2 ^ 31) (hd : d < 2 ^ 31) : f_X6_passes M (nI p) (nI d) = some (nI (pas F p d)) := by
  have h7 := h.n7
  rw [f_X6_passes]
  exact m_passes_loop hs h hp hd 4096 0 (Nat.zero_le _) (by omega)
theorem m_groupOf (hs : sF F M.2.1) (h : WF F) {e : Nat} (he : e < nE F) : f_X6_groupOf M (nI e) = some (nI (2 ^ e ||| 2 ^ jo F e)) := by
  have h7 := h.n7
  obtain ⟨j1, j2, j3, j4⟩ := jo_facts h he
  rw [f_X6_groupOf, ob_eq (m_joined hs h he), zshl (by omega)]
  by_cases q : F.2.2.2.1 e = -9
  · rw [q, if_neg (by decide), f_X6_groupOf_b24, j3 q, zL0, zor]
    simp
  · rw [(j4 q).1, if_pos (nI_pos' (by omega)), ob_eq (m_joined hs h he), (j4 q).1, zshl (by omega), f_X6_groupOf_b24, zor]
theorem m_group_and (h : WF F) {L e : Nat} (he : e < nE F) (hL : L < 2 ^ 31) : ((nI (2 ^ e ||| 2 ^ jo F e) &&& nI L) = (0 : Int32)) ↔ ¬ had F L e = true := by
  rw [zand, Nat.and_comm, zL0, zeq (Nat.lt_of_le_of_lt (and_le _ _) hL) (by omega)]
  exact and_two
theorem uL_lt (h : WF F) : uL F < 128 := Nat.lt_of_lt_of_le h.2.2.2.2.2.2.2.1.2 (pow_le7 h.n7)
theorem fL_lt (h : WF F) : fL F < 128 := Nat.lt_of_lt_of_le h.2.2.2.2.2.2.2.2.2 (pow_le7 h.n7)
theorem m_isHad (hs : sF F M.2.1) (h : WF F) {e : Nat} (he : e < nE F) : f_X6_isHad M (nI e) = some (if had F (uL F) e then 1 else 0) := by
  have hu := uL_lt h
  rw [f_X6_isHad, ob_eq (m_groupOf hs h he), hs.2.1, h.2.2.2.2.2.2.2.1.1]
  by_cases g : had F (uL F) e = true
  · rw [if_neg (fun z => (m_group_and h he (by omega)).mp z g), if_pos g]
  · rw [if_pos ((m_group_and h he (by omega)).mpr g), if_neg g]
/-- what a set counts, of those that are had, or not -/
def ww (F : ST_X1) (S : Nat) (b : Bool) (e : Nat) : Nat := if e ≤ jo F e ∧ had F S e = true ∧ had F (uL F) e = b then (if kd F e = 6 then 2 else 1) else 0
theorem m_worth_loop (hs : sF F M.2.1) (h : WF F) {S : Nat} (hS : S < 2 ^ 31) (b : Bool) : ∀ (fu i : Nat), i ≤ nE F → nE F - i < fu → f_X6_worth_b5 M fu (nI S) (if b then 1 else 0) (nI (sm (ww F S b) i)) (nI i) = some (nI (sm (ww F S b) (nE F))) := by
  have h7 := h.n7
  intro fu
  induction fu with
  | zero => intro i h1 h2; omega
  | succ fu ih =>
    intro i h1 h2
    rw [f_X6_worth_b5, hs.1, h.size]
    by_cases q : i = nE F
    · rw [if_pos ((nI_leI (by omega) (by omega)).mpr (by omega)), q]
    · have hi : i < nE F := by omega
      obtain ⟨j1, j2, j3, j4⟩ := jo_facts h hi
      rw [if_neg (fun z => absurd ((nI_leI (by omega) (by omega)).mp z) (by omega)), ob_eq (m_joined hs h hi)]
      have ih' := ih (i + 1) (by omega) (by omega)
      rw [sm] at ih'
      have skip : ww F S b i = 0 → f_X6_worth_b91 M (f_X6_worth_b5 M fu) (nI S) (if b then 1 else 0) (nI (sm (ww F S b) i)) (nI i) = some (nI (sm (ww F S b) (nE F))) := by
        intro z
        rw [f_X6_worth_b91, nI_1]
        rw [z, Nat.add_zero] at ih'
        exact ih'
      have yes : i ≤ jo F i → f_X6_worth_b43 M (f_X6_worth_b5 M fu) (nI S) (if b then 1 else 0) (nI (sm (ww F S b) i)) (nI i) 1 = some (nI (sm (ww F S b) (nE F))) := by
        intro le
        rw [f_X6_worth_b43, if_neg (by decide), ob_eq (m_groupOf hs h hi)]
        by_cases g : had F S i = true
        · rw [if_neg (fun z => (m_group_and h hi hS).mp z g), ob_eq (m_isHad hs h hi)]
          by_cases g2 : had F (uL F) i = b
          · have hw : ww F S b i = (if kd F i = 6 then 2 else 1) := by rw [ww, if_pos ⟨le, g, g2⟩]
            rw [g2, if_pos rfl, ob_eq (m_kind hs h hi), zL6, zif (zeq (by have := (h.2.2.1 i hi).2; omega) (by omega))]
            rw [hw] at ih'
            by_cases g3 : kd F i = 6
            · rw [if_pos g3, f_X6_worth_b89, f_X6_worth_b91, zL2, nI_add, nI_1]
              rw [if_pos g3] at ih'
              exact ih'
            · rw [if_neg g3, f_X6_worth_b89, f_X6_worth_b91, zL1, nI_add, nI_add]
              rw [if_neg g3] at ih'
              exact ih'
          · rw [if_neg (by cases b <;> cases hh : had F (uL F) i <;> simp_all)]
            exact skip (by rw [ww, if_neg (fun z => g2 z.2.2)])
        · rw [if_pos ((m_group_and h hi hS).mpr g)]
          exact skip (by rw [ww, if_neg (fun z => g z.2.1)])
      by_cases q1 : F.2.2.2.1 i = -9
      · rw [q1, if_pos zm9_lt, f_X6_worth_b38]
        exact yes (by rw [j3 q1]; exact Nat.le_refl _)
      · rw [(j4 q1).1, if_neg (zn_neg (by omega)), ob_eq (m_joined hs h hi), (j4 q1).1]
        by_cases g : jo F i ≤ i
        · rw [if_pos ((nI_leI (by omega) (by omega)).mpr g), f_X6_worth_b43, if_pos rfl]
          exact skip (by rw [ww, if_neg (fun z => by have := (j4 q1).2; omega)])
        · rw [if_neg (fun z => g ((nI_leI (by omega) (by omega)).mp z)), f_X6_worth_b38]
          exact yes (by omega)
theorem m_worth (hs : sF F M.2.1) (h : WF F) {S : Nat} (hS : S < 2 ^ 31) (b : Bool) : f_X6_worth M (nI S) (if b then 1 else 0) = some (nI (sm (ww F S b) (nE F))) := by
  have h7 := h.n7
  rw [f_X6_worth]
  exact m_worth_loop hs h hS b 4096 0 (Nat.zero_le _) (by omega)
theorem wv_nw (S : Nat) : wv F (nw F (uL F) S) = sm (ww F S false) (nE F) := by
  unfold wv
  apply sm_cong
  intro i hi
  rw [nw, bo_tb, ww]
  simp only [hi, decide_true, Bool.true_and]
  by_cases a : i ≤ jo F i <;> cases had F S i <;> cases had F (uL F) i <;> simp [a]
theorem m_newOf (hs : sF F M.2.1) (h : WF F) {S : Nat} (hS : S < 2 ^ 31) : f_X6_newOf M (nI S) = some (nI (wv F (nw F (uL F) S))) := by
  rw [f_X6_newOf, wv_nw]
  have := m_worth hs h hS false
  rw [if_neg (by decide)] at this
  rw [ob_eq this]
end M
