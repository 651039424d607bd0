/-! the book of readings -/
def nB (B : ST_X0) : Nat := B.2.2.2.2.toNatClampNeg
def bd (B : ST_X0) (i : Nat) : Nat := (B.1 i).toNatClampNeg
def bp (B : ST_X0) (i : Nat) : Nat := (B.2.1 i).toNatClampNeg
def bn (B : ST_X0) (i : Nat) : Nat := (B.2.2.1 i).toNatClampNeg
def bb (B : ST_X0) (i : Nat) : Nat := (B.2.2.2.1 i).toNatClampNeg
def WB (B : ST_X0) : Prop :=
  (B.2.2.2.2 = nI (nB B) ∧ nB B ≤ 12) ∧ ∀ i, i < nB B →
  (B.1 i = nI (bd B i) ∧ bd B i ≤ 1100) ∧ (B.2.1 i = nI (bp B i) ∧ bp B i < 5) ∧ (B.2.2.1 i = nI (bn B i) ∧ 10 ≤ bn B i ∧ bn B i ≤ 99) ∧ (B.2.2.2.1 i = nI (bb B i) ∧ bb B i < 4)
def sB (B : ST_X0) (s : Nat → Int32) : Prop :=
  s 4 = B.2.2.2.2 ∧ ∀ i, i < nB B → s (82 + 4 * i) = B.1 i ∧ s (82 + 4 * i + 1) = B.2.1 i ∧ s (82 + 4 * i + 2) = B.2.2.1 i ∧ s (82 + 4 * i + 3) = B.2.2.2.1 i
theorem x_holds {B : ST_X0} (h : WB B) {i : Nat} (hi : i < nB B) : f_X0_holds B (nI i) = some 1 := by
  have := h.1.2
  rw [f_X0_holds, if_neg (zn_neg (by omega)), h.1.1, if_neg (fun z => absurd ((nI_leI (by omega) (by omega)).mp z) (by omega)), show (12 : Int32) = nI 12 from rfl, if_neg (fun z => absurd ((nI_leI (by omega) (by omega)).mp z) (by omega))]
theorem m_in {M : ST_X6} {i k : Nat} (h : 82 + 4 * i + k < 130) : f_X6_in M (nI i) (nI k) = some (M.2.1 (82 + 4 * i + k)) := by
  rw [f_X6_in, zL82, zL4, pk_mul, nI_add, nI_add, if_pos (zin h (by omega)), zclamp (by omega)]
section B
variable {B : ST_X0} {M : ST_X6}
theorem m_day (hb : sB B M.2.1) (h : WB B) {i : Nat} (hi : i < nB B) : f_X6_in M (nI i) 0 = some (nI (bd B i)) := by
  have := h.1.2
  rw [show (0 : Int32) = nI 0 from rfl, m_in (by omega), Nat.add_zero, (hb.2 i hi).1, ((h.2 i hi).1).1]
theorem m_place (hb : sB B M.2.1) (h : WB B) {i : Nat} (hi : i < nB B) : f_X6_in M (nI i) 1 = some (nI (bp B i)) := by
  have := h.1.2
  rw [show (1 : Int32) = nI 1 from rfl, m_in (by omega), (hb.2 i hi).2.1, ((h.2 i hi).2.1).1]
theorem m_numb (hb : sB B M.2.1) (h : WB B) {i : Nat} (hi : i < nB B) : f_X6_in M (nI i) 2 = some (nI (bn B i)) := by
  have := h.1.2
  rw [show (2 : Int32) = nI 2 from rfl, m_in (by omega), (hb.2 i hi).2.2.1, ((h.2 i hi).2.2.1).1]
theorem m_boy (hb : sB B M.2.1) (h : WB B) {i : Nat} (hi : i < nB B) : f_X6_in M (nI i) 3 = some (nI (bb B i)) := by
  have := h.1.2
  rw [show (3 : Int32) = nI 3 from rfl, m_in (by omega), (hb.2 i hi).2.2.2, ((h.2 i hi).2.2.2).1]
theorem x_bnumber (h : WB B) {i : Nat} (hi : i < nB B) : f_X0_number B (nI i) = some (nI (bn B i)) := by
  have := h.1.2
  rw [f_X0_number, ob_eq (x_holds h hi), if_neg (by decide), if_pos (zin (by omega) (by omega)), zclamp (by omega), ((h.2 i hi).2.2.1).1]
end B
/-! which fit -/
def bf (x : Nat) : Nat := if x = 8 then 3 else x
def bl (a : Nat) : Nat := 10 * bf (a / 10) + bf (a % 10)
def mt (w : Bool) (a b : Nat) : Bool := if w then a == b else bl a == bl b
theorem x_blurred {a : Nat} (h : a ≤ 99) : f_X4_blurred (nI a) = some (nI (bl a)) := by
  have : ∀ a, a < 100 → f_X4_blurred (nI a) = some (nI (bl a)) := by decide +kernel
  exact this a (by omega)
theorem m_isRead {a b : Nat} (ha : a < 10) (hb : b < 10) : f_X6_isRead (nI a) (nI b) = some (if bf a = bf b then 1 else 0) := by
  have : ∀ a, a < 10 → ∀ b, b < 10 → f_X6_isRead (nI a) (nI b) = some (if bf a = bf b then 1 else 0) := by decide +kernel
  exact this a ha b hb
theorem bl_le {a : Nat} (h : a ≤ 99) : bl a ≤ 99 := by
  unfold bl bf
  split <;> split <;> omega
theorem bl_eq (a b : Nat) (ha : a ≤ 99) (hb : b ≤ 99) : bl a = bl b ↔ bf (a / 10) = bf (b / 10) ∧ bf (a % 10) = bf (b % 10) := by
  have k : ∀ x, x ≤ 9 → bf x ≤ 9 := fun x hx => by unfold bf; split <;> omega
  have k1 := k (a / 10) (by omega)
  have k2 := k (b / 10) (by omega)
  have k3 := k (a % 10) (by omega)
  have k4 := k (b % 10) (by omega)
  unfold bl
  omega
def fit (F : ST_X1) (B : ST_X0) (w : Bool) (i : Nat) : Nat := bo (fun e => (pas F (bp B i) (bd B i)).testBit e && mt w (nu F e) (bn B i)) (nE F)
theorem fit_lt7 {F : ST_X1} (h : WF F) (B : ST_X0) (w : Bool) (i : Nat) : fit F B w i < 128 := Nat.lt_of_lt_of_le (bo_lt _ _) (pow_le7 h.n7)
theorem and_bit (v e : Nat) : v &&& 2 ^ e = if v.testBit e then 2 ^ e else 0 := by
  apply Nat.eq_of_testBit_eq
  intro i
  rw [Nat.testBit_and, Nat.testBit_two_pow]
  by_cases q : e = i
  · subst q
    cases g : v.testBit e with
    | false => simp
    | true => simp
  · cases v.testBit e <;> simp [q]
section Fit
variable {W : ST_X4} {M : ST_X6}
theorem x_fit_loop (h : WF W.1) {P b : Nat} {w : Bool} (hP : P < 2 ^ nE W.1) (hb : b ≤ 99) : ∀ (fu i : Nat), i ≤ nE W.1 → nE W.1 - i < fu → f_X4_fittingOnes_b56 W fu (if w then 1 else 0) (nI b) (nI P) (nI (bo (fun e => P.testBit e && mt w (nu W.1 e) b) i)) (nI i) = some (nI (bo (fun e => P.testBit e && mt w (nu W.1 e) b) (nE W.1))) := by
  have h7 := h.n7
  intro fu
  induction fu with
  | zero => intro i h1 h2; omega
  | succ fu ih =>
    intro i h1 h2
    rw [f_X4_fittingOnes_b56, h.size]
    by_cases q : i = nE W.1
    · rw [if_pos ((nI_leI (by omega) (by omega)).mpr (by omega)), q]
    · have hi : i < nE W.1 := by omega
      have hnu := (h.2.1 i hi).2
      have ih' := ih (i + 1) (by omega) (by omega)
      rw [bo] at ih'
      have yes : mt w (nu W.1 i) b = true → f_X4_fittingOnes_b104 W (f_X4_fittingOnes_b56 W fu) (if w then 1 else 0) (nI b) (nI P) (nI (bo (fun e => P.testBit e && mt w (nu W.1 e) b) i)) (nI i) = some (nI (bo (fun e => P.testBit e && mt w (nu W.1 e) b) (nE W.1))) := by
        intro g
        rw [f_X4_fittingOnes_b104, ob_eq (x_bit h hi), f_X4_fittingOnes_b121, zand, zor, nI_1, and_bit]
        rw [g, Bool.and_true] at ih'
        exact ih'
      have no : mt w (nu W.1 i) b = false → f_X4_fittingOnes_b121 W (f_X4_fittingOnes_b56 W fu) (if w then 1 else 0) (nI b) (nI P) (nI (bo (fun e => P.testBit e && mt w (nu W.1 e) b) i)) (nI i) = some (nI (bo (fun e => P.testBit e && mt w (nu W.1 e) b) (nE W.1))) := by
        intro g
        rw [f_X4_fittingOnes_b121, nI_1]
        rw [g, Bool.and_false, if_neg Bool.false_ne_true, Nat.or_zero] at ih'
        exact ih'
      rw [if_neg (fun z => absurd ((nI_leI (by omega) (by omega)).mp z) (by omega)), ob_eq (x_number h hi)]
      cases w with
      | false =>
        rw [if_pos (by rfl), ob_eq (x_blurred hnu.2), ob_eq (x_blurred hb), zif (zeq (by have := bl_le hnu.2; omega) (by have := bl_le hb; omega))]
        by_cases g : bl (nu W.1 i) = bl b
        · rw [if_pos g]; exact yes (by simpa [mt] using g)
        · rw [if_neg g]; exact no (by simpa [mt] using g)
      | true =>
        rw [if_neg (by decide), zif (zeq (by omega) (by omega))]
        by_cases g : nu W.1 i = b
        · rw [if_pos g]; exact yes (by simpa [mt] using g)
        · rw [if_neg g]; exact no (by simpa [mt] using g)
theorem x_fit (h : WF W.1) (hB : WB W.2.1) {i : Nat} (hi : i < nB W.2.1) (w : Bool) : f_X4_fittingOnes W (nI i) (if w then 1 else 0) = some (nI (fit W.1 W.2.1 w i)) := by
  have h7 := h.n7
  have hn := hB.1.2
  obtain ⟨b1, b2, b3, b4⟩ := hB.2 i hi
  rw [f_X4_fittingOnes, ob_eq (x_holds hB hi), if_neg (by decide), if_pos (zin (by omega) (by omega)), if_pos (zin (by omega) (by omega)), if_pos (zin (by omega) (by omega)), zclamp (by omega), b1.1, b2.1, b3.1, ob_eq (x_passing h (by omega) (by omega))]
  exact x_fit_loop h (pas_lt _ _ _) b3.2.2 4096 0 (Nat.zero_le _) (by omega)
theorem m_fit_loop {F : ST_X1} (hs : sF F M.2.1) (h : WF F) {P b : Nat} {w : Bool} (hP : P < 2 ^ nE F) (hb : b ≤ 99) : ∀ (fu i : Nat), i ≤ nE F → nE F - i < fu → f_X6_fittingOf_b31 M fu (if w then 1 else 0) (nI P) (nI (bo (fun e => P.testBit e && mt w (nu F e) b) i)) (nI b) (nI i) = some (nI (bo (fun e => P.testBit e && mt w (nu F e) b) (nE F))) := by
  have h7 := h.n7
  have hp := pow_le7 h7
  intro fu
  induction fu with
  | zero => intro i h1 h2; omega
  | succ fu ih =>
    intro i h1 h2
    rw [f_X6_fittingOf_b31, hs.1, h.size]
    by_cases q : i = nE F
    · rw [if_pos ((nI_leI (by omega) (by omega)).mpr (by omega)), q]
    · have hi : i < nE F := by omega
      have hnu := (h.2.1 i hi).2
      have ih' := ih (i + 1) (by omega) (by omega)
      rw [bo] at ih'
      have yes : mt w (nu F i) b = true → f_X6_fittingOf_b107 M (f_X6_fittingOf_b31 M fu) (if w then 1 else 0) (nI P) (nI (bo (fun e => P.testBit e && mt w (nu F e) b) i)) (nI b) (nI i) 1 = some (nI (bo (fun e => P.testBit e && mt w (nu F e) b) (nE F))) := by
        intro g
        rw [f_X6_fittingOf_b107, if_neg (by decide), zshr (by omega) (by omega), zbit, ztb, show (1 : Int32) = nI 1 from rfl, zif (zeq (by split <;> omega) (by omega))]
        rw [g, Bool.and_true] at ih'
        by_cases g2 : P.testBit i = true
        · rw [if_pos (by rw [if_pos g2]), ← show (1 : Int32) = nI 1 from rfl, zshl (by omega), f_X6_fittingOf_b133, zor, nI_1]
          rw [if_pos g2] at ih'
          exact ih'
        · rw [if_neg (by rw [if_neg g2]; omega), f_X6_fittingOf_b133, nI_1]
          rw [if_neg g2, Nat.or_zero] at ih'
          exact ih'
      have no : mt w (nu F i) b = false → f_X6_fittingOf_b133 M (f_X6_fittingOf_b31 M fu) (if w then 1 else 0) (nI P) (nI (bo (fun e => P.testBit e && mt w (nu F e) b) i)) (nI b) (nI i) = some (nI (bo (fun e => P.testBit e && mt w (nu F e) b) (nE F))) := by
        intro g
        rw [f_X6_fittingOf_b133, nI_1]
        rw [g, Bool.and_false, if_neg Bool.false_ne_true, Nat.or_zero] at ih'
        exact ih'
      rw [if_neg (fun z => absurd ((nI_leI (by omega) (by omega)).mp z) (by omega)), ob_eq (m_number hs h hi)]
      cases w with
      | false =>
        have e := bl_eq (nu F i) b hnu.2 hb
        rw [if_pos (by rfl), zL10, pk_div (by omega) (by omega) (by omega), pk_div (by omega) (by omega) (by omega), ob_eq (m_isRead (by omega) (by omega))]
        by_cases g : bf (nu F i / 10) = bf (b / 10)
        · rw [if_pos g, if_neg (by decide), pk_mul, pk_mul, pk_sub (by omega), pk_sub (by omega), show nu F i - nu F i / 10 * 10 = nu F i % 10 by omega, show b - b / 10 * 10 = b % 10 by omega, ob_eq (m_isRead (by omega) (by omega))]
          by_cases g2 : bf (nu F i % 10) = bf (b % 10)
          · rw [if_pos g2, if_neg (by decide)]
            exact yes (by have := e.mpr ⟨g, g2⟩; simpa [mt] using this)
          · rw [if_neg g2, if_pos rfl, f_X6_fittingOf_b106, f_X6_fittingOf_b107, if_pos rfl]
            exact no (by have : ¬ bl (nu F i) = bl b := fun z => g2 (e.mp z).2
                         simpa [mt] using this)
        · rw [if_neg g, if_pos rfl, f_X6_fittingOf_b106, f_X6_fittingOf_b107, if_pos rfl]
          exact no (by have : ¬ bl (nu F i) = bl b := fun z => g (e.mp z).1
                       simpa [mt] using this)
      | true =>
        rw [if_neg (by decide), zif (zeq (by omega) (by omega))]
        by_cases g : nu F i = b
        · rw [if_pos g]; exact yes (by simpa [mt] using g)
        · rw [if_neg g, f_X6_fittingOf_b107, if_pos rfl]; exact no (by simpa [mt] using g)
theorem m_fit {F : ST_X1} {B : ST_X0} (hs : sF F M.2.1) (h : WF F) (hb : sB B M.2.1) (hB : WB B) {i : Nat} (hi : i < nB B) (w : Bool) : f_X6_fittingOf M (nI i) (if w then 1 else 0) = some (nI (fit F B w i)) := by
  have h7 := h.n7
  have hn := hB.1.2
  obtain ⟨b1, b2, b3, b4⟩ := hB.2 i hi
  rw [f_X6_fittingOf, ob_eq (m_place hb hB hi), ob_eq (m_day hb hB hi), ob_eq (m_passes hs h (by omega) (by omega)), ob_eq (m_numb hb hB hi)]
  exact m_fit_loop hs h (pas_lt _ _ _) b3.2.2 4096 0 (Nat.zero_le _) (by omega)
/-- those made up (bits) -/
def mu (F : ST_X1) (B : ST_X0) : Nat := bo (fun i => fit F B false i == 0) (nB B)
theorem x_mu_loop (h : WF W.1) (hB : WB W.2.1) : ∀ (fu i : Nat), i ≤ nB W.2.1 → nB W.2.1 - i < fu → f_X4_madeUpOnes_b4 W fu (nI (bo (fun i => fit W.1 W.2.1 false i == 0) i)) (nI i) = some (nI (mu W.1 W.2.1)) := by
  have hn := hB.1.2
  intro fu
  induction fu with
  | zero => intro i h1 h2; omega
  | succ fu ih =>
    intro i h1 h2
    rw [f_X4_madeUpOnes_b4, hB.1.1]
    by_cases q : i = nB W.2.1
    · rw [if_pos ((nI_leI (by omega) (by omega)).mpr (by omega)), q]
      rfl
    · have hi : i < nB W.2.1 := by omega
      have ih' := ih (i + 1) (by omega) (by omega)
      have x := x_fit h hB hi false
      have lt := fit_lt7 h W.2.1 false i
      rw [if_neg (by decide)] at x
      rw [bo] at ih'
      rw [if_neg (fun z => absurd ((nI_leI (by omega) (by omega)).mp z) (by omega)), ob_eq x, show ((0 : Int32)) = nI 0 from rfl, zif (zeq (by omega) (by omega))]
      by_cases g : fit W.1 W.2.1 false i = 0
      · rw [if_pos g, zshl (by omega), f_X4_madeUpOnes_b30, zor, nI_1]
        rw [if_pos (by simpa using g)] at ih'
        exact ih'
      · rw [if_neg g, f_X4_madeUpOnes_b30, nI_1]
        rw [if_neg (by simpa using g), Nat.or_zero] at ih'
        exact ih'
theorem x_mu (h : WF W.1) (hB : WB W.2.1) : f_X4_madeUpOnes W = some (nI (mu W.1 W.2.1)) := by
  have hn := hB.1.2
  rw [f_X4_madeUpOnes]
  exact x_mu_loop h hB 4096 0 (Nat.zero_le _) (by omega)
theorem m_mu_loop {F : ST_X1} {B : ST_X0} (hs : sF F M.2.1) (h : WF F) (hb : sB B M.2.1) (hB : WB B) : ∀ (fu i : Nat), i ≤ nB B → nB B - i < fu → f_X6_madeUpNow_b4 M fu (nI (bo (fun i => fit F B false i == 0) i)) (nI i) = some (nI (mu F B)) := by
  have hn := hB.1.2
  intro fu
  induction fu with
  | zero => intro i h1 h2; omega
  | succ fu ih =>
    intro i h1 h2
    rw [f_X6_madeUpNow_b4, hb.1, hB.1.1]
    by_cases q : i = nB B
    · rw [if_pos ((nI_leI (by omega) (by omega)).mpr (by omega)), q]
      rfl
    · have hi : i < nB B := by omega
      have ih' := ih (i + 1) (by omega) (by omega)
      have x := m_fit hs h hb hB hi false
      have lt := fit_lt7 h B false i
      rw [if_neg (by decide)] at x
      rw [bo] at ih'
      rw [if_neg (fun z => absurd ((nI_leI (by omega) (by omega)).mp z) (by omega)), ob_eq x, show ((0 : Int32)) = nI 0 from rfl, zif (zeq (by omega) (by omega))]
      by_cases g : fit F B false i = 0
      · rw [if_pos g, zshl (by omega), f_X6_madeUpNow_b29, zor, nI_1]
        rw [if_pos (by simpa using g)] at ih'
        exact ih'
      · rw [if_neg g, f_X6_madeUpNow_b29, nI_1]
        rw [if_neg (by simpa using g), Nat.or_zero] at ih'
        exact ih'
theorem m_mu {F : ST_X1} {B : ST_X0} (hs : sF F M.2.1) (h : WF F) (hb : sB B M.2.1) (hB : WB B) : f_X6_madeUpNow M = some (nI (mu F B)) := by
  have hn := hB.1.2
  rw [f_X6_madeUpNow]
  exact m_mu_loop hs h hb hB 4096 0 (Nat.zero_le _) (by omega)
end Fit
