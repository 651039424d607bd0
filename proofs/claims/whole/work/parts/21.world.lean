/-! the fleet as numbers; what it means that it is well made; the reference's row holds the same -/
def nE (F : ST_X1) : Nat := F.2.2.2.2.2.1.toNatClampNeg
def kd (F : ST_X1) (e : Nat) : Nat := (F.2.1 e).toNatClampNeg
def fg (F : ST_X1) (e : Nat) : Nat := (F.2.2.1 e).toNatClampNeg
def nu (F : ST_X1) (e : Nat) : Nat := (F.1 e).toNatClampNeg
def tn (F : ST_X1) (e d : Nat) : Nat := (F.2.2.2.2.1 (7 * e + d)).toNatClampNeg
def jo (F : ST_X1) (e : Nat) : Nat := if F.2.2.2.1 e = -9 then e else (F.2.2.2.1 e).toNatClampNeg
def uL (F : ST_X1) : Nat := F.2.2.2.2.2.2.2.1.toNatClampNeg
def fL (F : ST_X1) : Nat := F.2.2.2.2.2.2.2.2.toNatClampNeg
def okT (t : Nat) : Prop := t ≤ 4 ∨ t = 9
def WF (F : ST_X1) : Prop :=
  (F.2.2.2.2.2.1 = nI (nE F) ∧ nE F ≤ 7) ∧
  (∀ e, e < nE F → F.1 e = nI (nu F e) ∧ 10 ≤ nu F e ∧ nu F e ≤ 99) ∧
  (∀ e, e < nE F → F.2.1 e = nI (kd F e) ∧ kd F e ≤ 6) ∧
  (∀ e, e < nE F → F.2.2.1 e = nI (fg F e) ∧ fg F e ≤ 9) ∧
  (∀ e, e < nE F → (F.2.2.2.1 e = -9 ∨ (F.2.2.2.1 e = nI (jo F e) ∧ jo F e ≠ e)) ∧ jo F e < nE F ∧ jo F (jo F e) = e) ∧
  (∀ e, e < nE F → ∀ d, d < 7 → F.2.2.2.2.1 (7 * e + d) = nI (tn F e d) ∧ okT (tn F e d)) ∧
  F.2.2.2.2.2.2.1 = nI (bo (fun e => kd F e == 6) (nE F)) ∧
  (F.2.2.2.2.2.2.2.1 = nI (uL F) ∧ uL F < 2 ^ nE F) ∧
  (F.2.2.2.2.2.2.2.2 = nI (fL F) ∧ fL F < 2 ^ nE F)
def sF (F : ST_X1) (s : Nat → Int32) : Prop :=
  s 0 = F.2.2.2.2.2.1 ∧ s 2 = F.2.2.2.2.2.2.2.1 ∧ s 3 = F.2.2.2.2.2.2.2.2 ∧
  ∀ e, e < nE F → s (5 + 11 * e) = F.1 e ∧ s (5 + 11 * e + 1) = F.2.1 e ∧ s (5 + 11 * e + 2) = F.2.2.1 e ∧ s (5 + 11 * e + 3) = F.2.2.2.1 e ∧ ∀ d, d < 7 → s (5 + 11 * e + (4 + d)) = F.2.2.2.2.1 (7 * e + d)
/-- where an engine is on a day; 9: in its shed -/
def place (F : ST_X1) (e d : Nat) : Nat :=
  if kd F e = 1 then (if d % 7 < fg F e then tn F e (d % 7) else 9)
  else if kd F e = 2 then (if d / 7 % (fg F e + 2) = 0 then 9 else tn F e (d % 7))
  else if kd F e = 3 then fg F e % 5
  else if kd F e = 4 then (if fg F e ≤ d / 7 then 9 else tn F e (d % 7))
  else if kd F e = 5 then (if d / 7 % 2 = 0 then tn F e (d % 7) else tn F (if e + 1 < nE F then e + 1 else 0) (d % 7))
  else tn F e (d % 7)
section X
variable {F : ST_X1} (h : WF F)
theorem WF.n7 (h : WF F) : nE F ≤ 7 := h.1.2
theorem WF.size (h : WF F) : F.2.2.2.2.2.1 = nI (nE F) := h.1.1
theorem place_ok (h : WF F) {e d : Nat} (he : e < nE F) : okT (place F e d) := by
  have ht : ∀ e', e' < nE F → okT (tn F e' (d % 7)) := fun e' he' => (h.2.2.2.2.2.1 e' he' (d % 7) (Nat.mod_lt _ (by omega))).2
  have h9 : okT 9 := Or.inr rfl
  have hf := (h.2.2.2.1 e he).2
  unfold place
  split
  · split
    · exact ht e he
    · exact h9
  · split
    · split
      · exact h9
      · exact ht e he
    · split
      · left; omega
      · split
        · split
          · exact h9
          · exact ht e he
        · split
          · split
            · exact ht e he
            · apply ht; split <;> omega
          · exact ht e he
theorem place_le (h : WF F) {e d : Nat} (he : e < nE F) : place F e d ≤ 9 := by
  rcases place_ok h (d := d) he with q | q <;> omega
theorem tn_le (h : WF F) {e d : Nat} (he : e < nE F) (hd : d < 7) : tn F e d ≤ 9 := by
  rcases (h.2.2.2.2.2.1 e he d hd).2 with q | q <;> omega
theorem x_knows (h : WF F) {e : Nat} (he : e < 2 ^ 31) : f_X1_knows F (nI e) = some (if e < nE F then 1 else 0) := by
  have h7 := h.n7
  rw [f_X1_knows, f_X1_knows_b22, h.size, if_neg (zn_neg he)]
  by_cases q : e < nE F
  · rw [if_neg (fun z => absurd ((nI_leI (by omega) (by omega)).mp z) (by omega)), zL7, if_neg (fun z => absurd ((nI_leI (by omega) (by omega)).mp z) (by omega)), if_pos q]
  · rw [if_pos ((nI_leI (by omega) (by omega)).mpr (by omega)), if_neg q]
theorem x_knows_neg (F : ST_X1) {p : Int32} (hp : p < 0) : f_X1_knows F p = some 0 := by
  rw [f_X1_knows, f_X1_knows_b22, if_pos hp]
theorem x_knows_in (h : WF F) {e : Nat} (he : e < nE F) : f_X1_knows F (nI e) = some 1 := by
  have h7 := h.n7
  rw [x_knows h (by omega), if_pos he]
theorem x_number (h : WF F) {e : Nat} (he : e < nE F) : f_X1_number F (nI e) = some (nI (nu F e)) := by
  have h7 := h.n7
  rw [f_X1_number, ob_eq (x_knows_in h he), if_neg (by decide), if_pos (zin (by omega) (by omega)), zclamp (by omega), (h.2.1 e he).1]
theorem x_bit (h : WF F) {e : Nat} (he : e < nE F) : f_X1_bit F (nI e) = some (nI (2 ^ e)) := by
  have h7 := h.n7
  rw [f_X1_bit, ob_eq (x_knows_in h he), if_neg (by decide), zshl (by omega)]
theorem x_bit_neg (F : ST_X1) {p : Int32} (hp : p < 0) : f_X1_bit F p = some 0 := by
  rw [f_X1_bit, ob_eq (x_knows_neg F hp), if_pos rfl]
theorem x_turnOf (h : WF F) {e d : Nat} (he : e < nE F) (hd : d < 7) : f_X1_turnOf F (nI e) (nI d) = some (nI (tn F e d)) := by
  have h7 := h.n7
  rw [f_X1_turnOf, ob_eq (x_knows_in h he), if_neg (by decide), if_neg (zn_neg (by omega)), zL7, if_neg (fun z => absurd ((nI_leI (by omega) (by omega)).mp z) (by omega)), pk_mul, nI_add, if_pos (zin (by omega) (by omega)), zclamp (by omega), Nat.mul_comm e 7, (h.2.2.2.2.2.1 e he d hd).1]
theorem x_placeOn (h : WF F) {e d : Nat} (he : e < nE F) (hd : d < 2 ^ 31) : f_X1_placeOn F (nI e) (nI d) = some (nI (place F e d)) := by
  have h7 := h.n7
  have hm : d % 7 < 7 := Nat.mod_lt _ (by omega)
  have hf := h.2.2.2.1 e he
  have hk := h.2.2.1 e he
  rw [f_X1_placeOn, ob_eq (x_knows_in h he), if_neg (by decide), if_pos (nI_pos' hd), if_pos (zin (by omega) (by omega)), zL7, pk_rem hd (by omega) (by omega), pk_div hd (by omega) (by omega), ob_eq (x_turnOf h he hm), if_pos (zin (by omega) (by omega)), zclamp (by omega), hk.1, hf.1]
  unfold place
  generalize kd F e = k at hk ⊢
  generalize fg F e = f at hf ⊢
  have q : ∀ a : Nat, a < 2 ^ 31 → (nI k = nI a ↔ k = a) := fun a ha => zeq (by omega) ha
  rw [zL1, zL2, zL3, zL4, zL5, zL9]
  simp only [q 1 (by omega), q 2 (by omega), q 3 (by omega), q 4 (by omega), q 5 (by omega)]
  have hd7 : d / 7 < 2 ^ 31 := by omega
  by_cases k1 : k = 1
  · rw [if_pos k1, if_pos k1]
    by_cases g : d % 7 < f
    · rw [if_pos ((nI_ltI (by omega) (by omega)).mpr g), if_pos g]
    · rw [if_neg (fun z => g ((nI_ltI (by omega) (by omega)).mp z)), if_neg g]
  · rw [if_neg k1, if_neg k1]
    by_cases k2 : k = 2
    · rw [if_pos k2, if_pos k2, if_neg (zn_neg (by omega)), nI_add, if_pos (by rw [zL0, zeq (by omega) (by omega)]; omega), pk_rem hd7 (by omega) (by omega), f_X1_placeOn_b118, zL0, zif (zeq (a := d / 7 % (f + 2)) (b := 0) (by have := Nat.mod_lt (d / 7) (show f + 2 > 0 by omega); omega) (by omega))]
      by_cases g : d / 7 % (f + 2) = 0
      · rw [if_pos g, if_pos g]
      · rw [if_neg g, if_neg g]
    · rw [if_neg k2, if_neg k2]
      by_cases k3 : k = 3
      · rw [if_pos k3, if_pos k3, pk_rem (by omega) (by omega) (by omega)]
      · rw [if_neg k3, if_neg k3]
        by_cases k4 : k = 4
        · rw [if_pos k4, if_pos k4]
          by_cases g : f ≤ d / 7
          · rw [if_pos ((nI_leI (by omega) (by omega)).mpr g), if_pos g]
          · rw [if_neg (fun z => g ((nI_leI (by omega) (by omega)).mp z)), if_neg g]
        · rw [if_neg k4, if_neg k4]
          by_cases k5 : k = 5
          · rw [if_pos k5, if_pos k5, pk_rem hd7 (by omega) (by omega), zL0, zif (zeq (a := d / 7 % 2) (b := 0) (by omega) (by omega))]
            by_cases g : d / 7 % 2 = 0
            · rw [if_pos g, if_pos g]
            · rw [if_neg g, if_neg g, nI_add, ob_eq (x_knows h (by omega)), f_X1_placeOn_b169]
              by_cases g2 : e + 1 < nE F
              · rw [if_pos g2, if_pos g2, if_neg (by decide), f_X1_placeOn_b169, ob_eq (x_turnOf h g2 hm)]
              · rw [if_neg g2, if_neg g2, if_pos (by decide), ob_eq (x_turnOf h (by omega) hm)]
          · rw [if_neg k5, if_neg k5]
end X
