/-! who made things up, readings that can't both be, those sure, how many -/
def cnt (n b : Nat) : Nat := sm (fun e => if b.testBit e then 1 else 0) n
theorem bitCount12 (b : Nat) (h : b < 4096) : f_J6_bitCount_0f7a4 (nI b) = some (nI (cnt 12 b)) := by
  have k : ∀ x, x < 64 → ∀ y, y < 64 → f_J6_bitCount_0f7a4 (nI (64 * x + y)) = some (nI (cnt 12 (64 * x + y))) := by decide +kernel
  have := k (b / 64) (by omega) (b % 64) (by omega)
  rw [show 64 * (b / 64) + b % 64 = b by omega] at this
  exact this
theorem bits7 : ∀ b, b < 128 → f_X6_bits (nI b) = some (nI (pc7 b)) := by decide +kernel
section L
variable {W : ST_X4} {M : ST_X6} {F : ST_X1} {B : ST_X0}
theorem x_readBy_loop (h : WB B) {b : Nat} (hb : b < 2 ^ 31) : ∀ (fu i : Nat), i ≤ nB B → nB B - i < fu → f_X0_readBy_b4 B fu (nI b) (nI (bo (fun i => bb B i == b) i)) (nI i) = some (nI (bo (fun i => bb B i == b) (nB B))) := by
  have hn := h.1.2
  intro fu
  induction fu with
  | zero => intro i h1 h2; omega
  | succ fu ih =>
    intro i h1 h2
    rw [f_X0_readBy_b4, h.1.1]
    by_cases q : i = nB B
    · rw [if_pos ((nI_leI (by omega) (by omega)).mpr (by omega)), q]
    · have hi : i < nB B := by omega
      have ih' := ih (i + 1) (by omega) (by omega)
      have b4 := (h.2 i hi).2.2.2
      rw [bo] at ih'
      rw [if_neg (fun z => absurd ((nI_leI (by omega) (by omega)).mp z) (by omega)), ob_eq (x_holds h hi), if_neg (by decide), if_pos (zin (by omega) (by omega)), zclamp (by omega), b4.1, zif (zeq (by omega) (by omega))]
      by_cases g : bb B i = b
      · rw [if_pos g, zshl (by omega), f_X0_readBy_b36, zor, nI_1]
        rw [if_pos (by simpa using g)] at ih'
        exact ih'
      · rw [if_neg g, f_X0_readBy_b36, nI_1]
        rw [if_neg (by simpa using g), Nat.or_zero] at ih'
        exact ih'
theorem x_readBy (h : WB B) {b : Nat} (hb : b < 2 ^ 31) : f_X0_readBy B (nI b) = some (nI (bo (fun i => bb B i == b) (nB B))) := by
  have hn := h.1.2
  rw [f_X0_readBy]
  exact x_readBy_loop h hb 4096 0 (Nat.zero_le _) (by omega)
/-- how many of a boy's are made up -/
def lc (F : ST_X1) (B : ST_X0) (b : Nat) : Nat := sm (fun i => if (mu F B).testBit i && bb B i == b then 1 else 0) (nB B)
theorem lc_le (hB : WB B) (b : Nat) : lc F B b ≤ 12 := by
  have hn := hB.1.2
  have := sm_bound (f := fun i => if (mu F B).testBit i && bb B i == b then 1 else 0) (c := 1) (n := nB B) (fun i hi => by split <;> omega)
  unfold lc
  omega
theorem cnt_lc (hB : WB B) (b : Nat) : cnt 12 (mu F B &&& bo (fun i => bb B i == b) (nB B)) = lc F B b := by
  have hn := hB.1.2
  unfold cnt lc
  rw [sm_more (n := nB B) hn]
  · apply sm_cong
    intro i hi
    rw [Nat.testBit_and, bo_tb]
    simp only [hi, decide_true, Bool.true_and]
  · intro i h1 h2
    rw [Nat.testBit_and, bo_tb, decide_eq_false (by omega), Bool.false_and, Bool.and_false]
    rfl
theorem mu_lt (hB : WB B) : mu F B < 4096 := by
  have := bo_lt (fun i => fit F B false i == 0) (nB B)
  have : 2 ^ nB B ≤ 2 ^ 12 := Nat.pow_le_pow_right (by omega) hB.1.2
  unfold mu
  omega
/-- the boys (bits) of k from the b-th with the most, m the most so far -/
def lr (c : Nat → Nat) : Nat → Nat → Nat → Nat → Nat
  | 0, _, _, s => s
  | k + 1, b, m, s => if c b < m then lr c k (b + 1) m s else if c b = m then lr c k (b + 1) m (s ||| 2 ^ b) else lr c k (b + 1) (c b) (2 ^ b)
theorem x_liars_loop {S : ST_X5} (hB : WB S.2.1.2.1) : ∀ (fu b m s : Nat), b ≤ 4 → 4 - b < fu → m ≤ 12 → f_X5_liars_b15 S fu (nI (mu S.2.1.1 S.2.1.2.1)) (nI m) (nI s) (nI b) = some (nI (lr (lc S.2.1.1 S.2.1.2.1) (4 - b) b m s)) := by
  intro fu
  induction fu with
  | zero => intro i m s h1 h2; omega
  | succ fu ih =>
    intro b m s h1 h2 h3
    rw [f_X5_liars_b15, zL4]
    by_cases q : b = 4
    · rw [if_pos ((nI_leI (by omega) (by omega)).mpr (by omega)), q]
      rfl
    · have hk : 4 - b = (4 - (b + 1)) + 1 := by omega
      have hc := lc_le (F := S.2.1.1) hB b
      have hmu := mu_lt (F := S.2.1.1) hB
      rw [if_neg (fun z => absurd ((nI_leI (by omega) (by omega)).mp z) (by omega)), ob_eq (x_readBy hB (by omega)), zand, ob_eq (bitCount12 _ (Nat.lt_of_le_of_lt (and_le _ _) hmu)), cnt_lc hB, zif (nI_leI (by omega) (by omega)), hk, lr]
      by_cases g : lc S.2.1.1 S.2.1.2.1 b ≤ m
      · rw [if_pos g, f_X5_liars_b51, zif (zeq (by omega) (by omega))]
        by_cases g2 : lc S.2.1.1 S.2.1.2.1 b = m
        · rw [if_pos g2, f_X5_liars_b64, zshl (by omega), zor, nI_1, ih (b + 1) _ _ (by omega) (by omega) h3, if_neg (by omega), if_pos g2]
        · rw [if_neg g2, f_X5_liars_b64, nI_1, ih (b + 1) _ _ (by omega) (by omega) h3, if_pos (by omega)]
      · rw [if_neg g, f_X5_liars_b51, if_pos rfl, f_X5_liars_b64, zshl (by omega), show (0 : Int32) = nI 0 from rfl, zor, Nat.zero_or, nI_1, ih (b + 1) _ _ (by omega) (by omega) hc, if_neg (by omega), if_neg (by omega)]
theorem x_liars {S : ST_X5} (h : WF S.2.1.1) (hB : WB S.2.1.2.1) : f_X5_liars S = some (nI (lr (lc S.2.1.1 S.2.1.2.1) 4 0 1 0)) := by
  rw [f_X5_liars, ob_eq (x_mu h hB)]
  exact x_liars_loop hB 4096 0 1 0 (by omega) (by omega) (by omega)
theorem m_by_loop (hb : sB B M.2.1) (hB : WB B) {b : Nat} (hb4 : b < 2 ^ 31) : ∀ (fu i : Nat), i ≤ nB B → nB B - i < fu → f_X6_madeUpBy_b10 M fu (nI b) (nI (mu F B)) (nI (sm (fun i => if (mu F B).testBit i && bb B i == b then 1 else 0) i)) (nI i) = some (nI (lc F B b)) := by
  have hn := hB.1.2
  have hmu := mu_lt (F := F) hB
  intro fu
  induction fu with
  | zero => intro i h1 h2; omega
  | succ fu ih =>
    intro i h1 h2
    rw [f_X6_madeUpBy_b10, hb.1, hB.1.1]
    by_cases q : i = nB B
    · rw [if_pos ((nI_leI (by omega) (by omega)).mpr (by omega)), q]
      rfl
    · have hi : i < nB B := by omega
      have ih' := ih (i + 1) (by omega) (by omega)
      have b4 := (hB.2 i hi).2.2.2
      rw [sm] at ih'
      rw [if_neg (fun z => absurd ((nI_leI (by omega) (by omega)).mp z) (by omega)), zshr (by omega) (by omega), zbit, ztb, show (1 : Int32) = nI 1 from rfl, zif (zeq (by split <;> omega) (by omega))]
      by_cases g : (mu F B).testBit i = true
      · rw [if_pos (by rw [if_pos g]), ob_eq (m_boy hb hB hi), zif (zeq (by omega) hb4)]
        rw [g, Bool.true_and] at ih'
        by_cases g2 : bb B i = b
        · rw [if_pos g2, f_X6_madeUpBy_b48, nI_add, nI_1]
          rw [if_pos (by simpa using g2)] at ih'
          exact ih'
        · rw [if_neg g2, f_X6_madeUpBy_b47, f_X6_madeUpBy_b48, nI_1, show (0 : Int32) = nI 0 from rfl, nI_add]
          rw [if_neg (by simpa using g2)] at ih'
          exact ih'
      · rw [if_neg (by rw [if_neg g]; omega), f_X6_madeUpBy_b47, f_X6_madeUpBy_b48, nI_1, show (0 : Int32) = nI 0 from rfl, nI_add]
        rw [if_neg (by simp [g])] at ih'
        exact ih'
theorem m_by (hs : sF F M.2.1) (h : WF F) (hb : sB B M.2.1) (hB : WB B) {b : Nat} (hb4 : b < 2 ^ 31) : f_X6_madeUpBy M (nI b) = some (nI (lc F B b)) := by
  have hn := hB.1.2
  rw [f_X6_madeUpBy, ob_eq (m_mu hs h hb hB)]
  exact m_by_loop hb hB hb4 4096 0 (Nat.zero_le _) (by omega)
theorem m_liars_loop (hs : sF F M.2.1) (h : WF F) (hb : sB B M.2.1) (hB : WB B) : ∀ (fu b m s : Nat), b ≤ 4 → 4 - b < fu → m ≤ 12 → f_X6_liars_b6 M fu (nI m) (nI s) (nI b) = some (nI (lr (lc F B) (4 - b) b m s)) := by
  intro fu
  induction fu with
  | zero => intro i m s h1 h2; omega
  | succ fu ih =>
    intro b m s h1 h2 h3
    rw [f_X6_liars_b6, zL4]
    by_cases q : b = 4
    · rw [if_pos ((nI_leI (by omega) (by omega)).mpr (by omega)), q]
      rfl
    · have hk : 4 - b = (4 - (b + 1)) + 1 := by omega
      have hc := lc_le (F := F) hB b
      rw [if_neg (fun z => absurd ((nI_leI (by omega) (by omega)).mp z) (by omega)), ob_eq (m_by hs h hb hB (by omega)), zif (nI_leI (by omega) (by omega)), hk, lr]
      by_cases g : m ≤ lc F B b
      · rw [if_pos g, zif (nI_leI (by omega) (by omega))]
        by_cases g2 : lc F B b ≤ m
        · have e : lc F B b = m := by omega
          rw [if_pos g2, zshl (by omega), zor, f_X6_liars_b44, f_X6_liars_b48, nI_1, ih (b + 1) _ _ (by omega) (by omega) hc, if_neg (by omega), if_pos e, e]
        · rw [if_neg g2, zshl (by omega), f_X6_liars_b44, f_X6_liars_b48, nI_1, ih (b + 1) _ _ (by omega) (by omega) hc, if_neg (by omega), if_neg (by omega)]
      · rw [if_neg g, f_X6_liars_b48, nI_1, ih (b + 1) _ _ (by omega) (by omega) h3, if_pos (by omega)]
theorem m_liars (hs : sF F M.2.1) (h : WF F) (hb : sB B M.2.1) (hB : WB B) : f_X6_liars M = some (nI (lr (lc F B) 4 0 1 0)) := by
  rw [f_X6_liars]
  exact m_liars_loop hs h hb hB 4096 0 1 0 (by omega) (by omega) (by omega)
/-- two readings that can't both be -/
def cl (B : ST_X0) (i j : Nat) : Bool := bn B i == bn B j && bd B i == bd B j && bp B i != bp B j
theorem x_cannot (h : WB B) {i j : Nat} (hi : i < nB B) (hj : j < nB B) : f_X0_cannotBothBe B (nI i) (nI j) = some (if cl B i j then 1 else 0) := by
  have hn := h.1.2
  obtain ⟨a1, a2, a3, a4⟩ := h.2 i hi
  obtain ⟨c1, c2, c3, c4⟩ := h.2 j hj
  have i1 := zin (k := i) (n := 12) (by omega) (by omega)
  have j1 := zin (k := j) (n := 12) (by omega) (by omega)
  have ei : (nI i).toNatClampNeg = i := zclamp (by omega)
  have ej : (nI j).toNatClampNeg = j := zclamp (by omega)
  rw [f_X0_cannotBothBe, ob_eq (x_holds h hi), if_neg (by decide), ob_eq (x_holds h hj), if_neg (by decide), if_pos i1, if_pos j1]
  simp only [ei, ej]
  rw [a3.1, c3.1, a1.1, c1.1, a2.1, c2.1, zif (zeq (by omega) (by omega)), cl]
  by_cases g : bn B i = bn B j
  · rw [if_pos g, if_pos i1, if_pos j1, zif (zeq (by omega) (by omega)), g]
    by_cases g2 : bd B i = bd B j
    · rw [if_pos g2, if_pos i1, if_pos j1, zif (zeq (by omega) (by omega)), g2]
      by_cases g3 : bp B i = bp B j
      · rw [if_pos g3, g3, f_X0_cannotBothBe_b65]; simp
      · rw [if_neg g3]; simp [g3]
    · rw [if_neg g2, f_X0_cannotBothBe_b65]; simp [g2]
  · rw [if_neg g, f_X0_cannotBothBe_b65]; simp [g]
theorem x_clash_in0 {S : ST_X5} (h : WB S.2.1.2.1) {i : Nat} (hi : i < nB S.2.1.2.1) (k : ST_X5 → Int32 → Int32 → Int32 → Option (Int32 × ST_X5)) : ∀ (fu j c : Nat), j ≤ nB S.2.1.2.1 → nB S.2.1.2.1 - j < fu → f_X5_clash_b39 k fu S 0 (nI c) (nI i) (nI j) = k S 0 (nI (c + pc (cl S.2.1.2.1) i (nB S.2.1.2.1 - j) j)) (nI (i + 1)) := by
  have hn := h.1.2
  intro fu
  induction fu with
  | zero => intro j c h1 h2; omega
  | succ fu ih =>
    intro j c h1 h2
    rw [f_X5_clash_b39, h.1.1]
    by_cases q : j = nB S.2.1.2.1
    · rw [if_pos ((nI_leI (by omega) (by omega)).mpr (by omega)), q, Nat.sub_self, pc, nI_1]
      rfl
    · have hk : nB S.2.1.2.1 - j = (nB S.2.1.2.1 - (j + 1)) + 1 := by omega
      rw [if_neg (fun z => absurd ((nI_leI (by omega) (by omega)).mp z) (by omega)), ob_eq (x_cannot h hi (by omega)), hk, pc]
      by_cases g : cl S.2.1.2.1 i j = true
      · rw [if_pos g, if_neg (by decide), if_neg (by decide), f_X5_clash_b86, nI_1, nI_1, ih (j + 1) (c + 1) (by omega) (by omega), if_pos g, Nat.add_assoc]
      · rw [if_neg g, if_pos rfl, f_X5_clash_b86, nI_1, ih (j + 1) c (by omega) (by omega), if_neg g, Nat.zero_add]
theorem x_clash_out0 {S : ST_X5} (h : WB S.2.1.2.1) : ∀ (fu i c : Nat), i ≤ nB S.2.1.2.1 → nB S.2.1.2.1 - i < fu → f_X5_clash_b20 fu S 0 (nI c) (nI i) = some (nI (c + qc (cl S.2.1.2.1) (nB S.2.1.2.1) (nB S.2.1.2.1 - i) i), S) := by
  have hn := h.1.2
  intro fu
  induction fu with
  | zero => intro j c h1 h2; omega
  | succ fu ih =>
    intro i c h1 h2
    rw [f_X5_clash_b20, h.1.1]
    by_cases q : i = nB S.2.1.2.1
    · rw [if_pos ((nI_leI (by omega) (by omega)).mpr (by omega)), if_neg (by decide), q, Nat.sub_self, qc]
      rfl
    · have hk : nB S.2.1.2.1 - i = (nB S.2.1.2.1 - (i + 1)) + 1 := by omega
      rw [if_neg (fun z => absurd ((nI_leI (by omega) (by omega)).mp z) (by omega)), nI_1, x_clash_in0 h (by omega) _ 4096 (i + 1) c (by omega) (by omega), ih (i + 1) _ (by omega) (by omega), hk, qc, Nat.add_assoc]
theorem x_clash_in1 {S : ST_X5} (h : WB S.2.1.2.1) {i : Nat} (hi : i < nB S.2.1.2.1) (k : ST_X5 → Int32 → Int32 → Int32 → Option (Int32 × ST_X5)) (c : Int32) : ∀ (fu j : Nat), j ≤ nB S.2.1.2.1 → nB S.2.1.2.1 - j < fu → f_X5_clash_b39 k fu S 1 c (nI i) (nI j) = if pf (cl S.2.1.2.1) 12 i (nB S.2.1.2.1 - j) j = -9 then k S 1 c (nI (i + 1)) else some (pf (cl S.2.1.2.1) 12 i (nB S.2.1.2.1 - j) j, S) := by
  have hn := h.1.2
  intro fu
  induction fu with
  | zero => intro j h1 h2; omega
  | succ fu ih =>
    intro j h1 h2
    rw [f_X5_clash_b39, h.1.1]
    by_cases q : j = nB S.2.1.2.1
    · rw [if_pos ((nI_leI (by omega) (by omega)).mpr (by omega)), q, Nat.sub_self, pf, nI_1, if_pos rfl]
    · have hk : nB S.2.1.2.1 - j = (nB S.2.1.2.1 - (j + 1)) + 1 := by omega
      rw [if_neg (fun z => absurd ((nI_leI (by omega) (by omega)).mp z) (by omega)), ob_eq (x_cannot h hi (by omega)), hk, pf]
      by_cases g : cl S.2.1.2.1 i j = true
      · rw [if_pos g, if_neg (by decide), if_pos rfl, if_pos g, if_neg (zne9 (by omega)), show (12 : Int32) = nI 12 from rfl, pk_mul, nI_add]
      · rw [if_neg g, if_pos rfl, f_X5_clash_b86, nI_1, ih (j + 1) (by omega) (by omega), if_neg g]
theorem x_clash_out1 {S : ST_X5} (h : WB S.2.1.2.1) (c : Int32) : ∀ (fu i : Nat), i ≤ nB S.2.1.2.1 → nB S.2.1.2.1 - i < fu → f_X5_clash_b20 fu S 1 c (nI i) = some (qf (cl S.2.1.2.1) 12 (nB S.2.1.2.1) (nB S.2.1.2.1 - i) i, S) := by
  have hn := h.1.2
  intro fu
  induction fu with
  | zero => intro j h1 h2; omega
  | succ fu ih =>
    intro i h1 h2
    rw [f_X5_clash_b20, h.1.1]
    by_cases q : i = nB S.2.1.2.1
    · rw [if_pos ((nI_leI (by omega) (by omega)).mpr (by omega)), if_pos rfl, q, Nat.sub_self, qf]
    · have hk : nB S.2.1.2.1 - i = (nB S.2.1.2.1 - (i + 1)) + 1 := by omega
      rw [if_neg (fun z => absurd ((nI_leI (by omega) (by omega)).mp z) (by omega)), nI_1, x_clash_in1 h (by omega) _ c 4096 (i + 1) (by omega) (by omega), ih (i + 1) (by omega) (by omega), hk, qf]
      split <;> rfl
theorem m_clash_in (hb : sB B M.2.1) (h : WB B) {i : Nat} (hi : i < nB B) (w : Int32) (k : ST_X6 → Int32 → Int32 → Int32 → Int32 → Option (Int32 × ST_X6)) : ∀ (fu j c : Nat) (v : Int32), (v = -9 ∨ 0 ≤ v) → j ≤ nB B → nB B - j < fu → f_X6_clash_b40 k fu M w (nI c) v (nI i) (nI j) = k M w (nI (c + pc (cl B) i (nB B - j) j)) (od v (pf (cl B) 12 i (nB B - j) j)) (nI (i + 1)) := by
  have hn := h.1.2
  obtain ⟨a1, a2, a3, a4⟩ := h.2 i hi
  intro fu
  induction fu with
  | zero => intro j c v hv h1 h2; omega
  | succ fu ih =>
    intro j c v hv h1 h2
    rw [f_X6_clash_b40, hb.1, h.1.1]
    by_cases q : j = nB B
    · rw [if_pos ((nI_leI (by omega) (by omega)).mpr (by omega)), q, Nat.sub_self, pc, pf, nI_1, od]
      congr 1
      split
      · assumption
      · rfl
    · have hk : nB B - j = (nB B - (j + 1)) + 1 := by omega
      have hj : j < nB B := by omega
      obtain ⟨c1, c2, c3, c4⟩ := h.2 j hj
      have no : cl B i j = false → f_X6_clash_b125 k (f_X6_clash_b40 k fu) M w (nI c) v (nI i) (nI j) = k M w (nI (c + ((if cl B i j then 1 else 0) + pc (cl B) i (nB B - (j + 1)) (j + 1)))) (od v (if cl B i j then nI (12 * i + j) else pf (cl B) 12 i (nB B - (j + 1)) (j + 1))) (nI (i + 1)) := by
        intro g
        rw [f_X6_clash_b125, nI_1, ih (j + 1) c v hv (by omega) (by omega), g, if_neg (by decide), if_neg (by decide), Nat.zero_add]
      rw [if_neg (fun z => absurd ((nI_leI (by omega) (by omega)).mp z) (by omega)), hk, pc, pf, ob_eq (m_numb hb h hi), ob_eq (m_numb hb h hj), zif (zeq (by omega) (by omega))]
      by_cases g1 : bn B i = bn B j
      · rw [if_pos g1, ob_eq (m_day hb h hi), ob_eq (m_day hb h hj), zif (zeq (by omega) (by omega))]
        by_cases g2 : bd B i = bd B j
        · rw [if_pos g2, ob_eq (m_place hb h hi), ob_eq (m_place hb h hj), zif (zeq (by omega) (by omega))]
          by_cases g3 : bp B i = bp B j
          · rw [if_pos g3]
            exact no (by rw [cl]; simp [g3])
          · have g : cl B i j = true := by rw [cl]; simp [g1, g2, g3]
            rw [if_neg g3, g, if_pos rfl, if_pos rfl]
            rcases hv with hv | hv
            · rw [hv, if_neg (by decide), f_X6_clash_b124, f_X6_clash_b125, show (12 : Int32) = nI 12 from rfl, pk_mul, nI_add, nI_1, nI_1, ih (j + 1) (c + 1) _ (Or.inr (nI_pos' (by omega))) (by omega) (by omega), od, od, if_neg (zne9 (by omega)), if_pos rfl, Nat.add_assoc]
            · have nv : ¬ v = -9 := fun z => by rw [z] at hv; exact absurd hv (by decide)
              rw [if_pos hv, f_X6_clash_b124, f_X6_clash_b125, nI_1, nI_1, ih (j + 1) (c + 1) _ (Or.inr hv) (by omega) (by omega), od, od, if_neg nv, if_neg nv, Nat.add_assoc]
        · rw [if_neg g2]
          exact no (by rw [cl]; simp [g2])
      · rw [if_neg g1]
        exact no (by rw [cl]; simp [g1])
theorem m_clash_out (hb : sB B M.2.1) (h : WB B) (w : Int32) : ∀ (fu i c : Nat) (v : Int32), (v = -9 ∨ 0 ≤ v) → i ≤ nB B → nB B - i < fu → f_X6_clash_b23 fu M w (nI c) v (nI i) = some (if w = 0 then nI (c + qc (cl B) (nB B) (nB B - i) i) else od v (qf (cl B) 12 (nB B) (nB B - i) i), M) := by
  have hn := h.1.2
  intro fu
  induction fu with
  | zero => intro j c v hv h1 h2; omega
  | succ fu ih =>
    intro i c v hv h1 h2
    rw [f_X6_clash_b23, hb.1, h.1.1]
    by_cases q : i = nB B
    · rw [if_pos ((nI_leI (by omega) (by omega)).mpr (by omega)), q, Nat.sub_self, qc, qf, Nat.add_zero, od]
      by_cases g : w = 0
      · rw [if_pos g, if_pos g]
      · rw [if_neg g, if_neg g]
        congr 2
        split
        · assumption
        · rfl
    · have hk : nB B - i = (nB B - (i + 1)) + 1 := by omega
      rw [if_neg (fun z => absurd ((nI_leI (by omega) (by omega)).mp z) (by omega)), nI_1, m_clash_in hb h (by omega) w _ 4096 (i + 1) c v hv (by omega) (by omega), ih (i + 1) _ _ (od_nn hv (pf_nn _ _ _ _ _ (by omega))) (by omega) (by omega), hk, qc, qf, Nat.add_assoc, od_od]
      rfl
/-- those sure -/
def su (F : ST_X1) (B : ST_X0) (i : Nat) : Nat := if pc7 (fit F B false i) = 1 then fit F B false i else 0
theorem pc7_le (b : Nat) : pc7 b ≤ 7 := by
  have := sm_bound (f := fun e => if b.testBit e then 1 else 0) (c := 1) (n := 7) (fun i hi => by split <;> omega)
  unfold pc7
  omega
theorem x_sure_loop {S : ST_X5} (h : WF S.2.1.1) (hB : WB S.2.1.2.1) : ∀ (fu i : Nat), i ≤ nB S.2.1.2.1 → nB S.2.1.2.1 - i < fu → f_X5_sure_b4 S fu (nI (orr (su S.2.1.1 S.2.1.2.1) i)) (nI i) = some (nI (orr (su S.2.1.1 S.2.1.2.1) (nB S.2.1.2.1))) := by
  have hn := hB.1.2
  intro fu
  induction fu with
  | zero => intro i h1 h2; omega
  | succ fu ih =>
    intro i h1 h2
    rw [f_X5_sure_b4, hB.1.1]
    by_cases q : i = nB S.2.1.2.1
    · rw [if_pos ((nI_leI (by omega) (by omega)).mpr (by omega)), q]
    · have hi : i < nB S.2.1.2.1 := by omega
      have x := x_fit h hB hi false
      have lt := fit_lt7 h S.2.1.2.1 false i
      have le := pc7_le (fit S.2.1.1 S.2.1.2.1 false i)
      have ih' := ih (i + 1) (by omega) (by omega)
      rw [orr, su] at ih'
      rw [if_neg (by decide)] at x
      rw [if_neg (fun z => absurd ((nI_leI (by omega) (by omega)).mp z) (by omega)), ob_eq x, ob_eq (bitCount7 _ lt), zL1, zif (zeq (by omega) (by omega))]
      by_cases g : pc7 (fit S.2.1.1 S.2.1.2.1 false i) = 1
      · rw [if_pos g, f_X5_sure_b40, zor, nI_1]
        rw [if_pos g] at ih'
        exact ih'
      · rw [if_neg g, f_X5_sure_b40, nI_1]
        rw [if_neg g, Nat.or_zero] at ih'
        exact ih'
theorem x_sure {S : ST_X5} (h : WF S.2.1.1) (hB : WB S.2.1.2.1) : f_X5_sure S = some (nI (orr (su S.2.1.1 S.2.1.2.1) (nB S.2.1.2.1))) := by
  have hn := hB.1.2
  rw [f_X5_sure]
  exact x_sure_loop h hB 4096 0 (Nat.zero_le _) (by omega)
theorem m_sure_loop (hs : sF F M.2.1) (h : WF F) (hb : sB B M.2.1) (hB : WB B) : ∀ (fu i : Nat), i ≤ nB B → nB B - i < fu → f_X6_sure_b4 M fu (nI (orr (su F B) i)) (nI i) = some (nI (orr (su F B) (nB B))) := by
  have hn := hB.1.2
  intro fu
  induction fu with
  | zero => intro i h1 h2; omega
  | succ fu ih =>
    intro i h1 h2
    rw [f_X6_sure_b4, hb.1, hB.1.1]
    by_cases q : i = nB B
    · rw [if_pos ((nI_leI (by omega) (by omega)).mpr (by omega)), q]
    · have hi : i < nB B := by omega
      have x := m_fit hs h hb hB hi false
      have lt := fit_lt7 h B false i
      have le := pc7_le (fit F B false i)
      have ih' := ih (i + 1) (by omega) (by omega)
      rw [orr, su] at ih'
      rw [if_neg (by decide)] at x
      rw [if_neg (fun z => absurd ((nI_leI (by omega) (by omega)).mp z) (by omega)), ob_eq x, ob_eq (bits7 _ lt), zL1, zif (zeq (by omega) (by omega))]
      by_cases g : pc7 (fit F B false i) = 1
      · rw [if_pos g, ob_eq x, f_X6_sure_b36, zor, nI_1]
        rw [if_pos g] at ih'
        exact ih'
      · rw [if_neg g, f_X6_sure_b36, nI_1]
        rw [if_neg g, Nat.or_zero] at ih'
        exact ih'
theorem m_sure (hs : sF F M.2.1) (h : WF F) (hb : sB B M.2.1) (hB : WB B) : f_X6_sure M = some (nI (orr (su F B) (nB B))) := by
  have hn := hB.1.2
  rw [f_X6_sure]
  exact m_sure_loop hs h hb hB 4096 0 (Nat.zero_le _) (by omega)
/-- the first of its number -/
def fo (B : ST_X0) (i : Nat) : Nat → Bool
  | 0 => true
  | j + 1 => fo B i j && bn B j != bn B i
def gm (B : ST_X0) : Nat → Nat
  | 0 => 0
  | i + 1 => if gm B i < bn B i then bn B i else gm B i
def ul (B : ST_X0) : Nat → Nat := sm (fun i => if fo B i i then 1 else 0)
theorem gm_le (h : WB B) : ∀ i, i ≤ nB B → gm B i ≤ 99 := by
  intro i
  induction i with
  | zero => intro _; exact Nat.zero_le _
  | succ i ih =>
    intro hi
    have := (h.2 i (by omega)).2.2.1
    have := ih (by omega)
    rw [gm]; split <;> omega
theorem ul_le (i : Nat) : ul B i ≤ i := by
  have := sm_bound (f := fun i => if fo B i i then 1 else 0) (c := 1) (n := i) (fun i hi => by split <;> omega)
  unfold ul
  omega
theorem fo_last (i : Nat) : ∀ k j, j + k = i → fo B i i = (fo B i j && al (fun j => bn B j != bn B i) k j) := by
  intro k
  induction k with
  | zero => intro j hj; rw [al, Bool.and_true, ← hj]; rfl
  | succ k ih => intro j hj; rw [ih (j + 1) (by omega), al, fo, Bool.and_assoc]
theorem x_first_loop (h : WB B) {i : Nat} (hi : i < nB B) : ∀ (fu j : Nat), j ≤ i → i - j < fu → f_X0_isFirstOfItsNumber_b2 B fu (nI i) (nI j) = some (if al (fun j => bn B j != bn B i) (i - j) j then 1 else 0) := by
  have hn := h.1.2
  have a := (h.2 i hi).2.2.1
  intro fu
  induction fu with
  | zero => intro j h1 h2; omega
  | succ fu ih =>
    intro j h1 h2
    rw [f_X0_isFirstOfItsNumber_b2]
    by_cases q : j = i
    · rw [if_pos ((nI_leI (by omega) (by omega)).mpr (by omega)), q, Nat.sub_self, al]
      rfl
    · have b := (h.2 j (by omega)).2.2.1
      have hk : i - j = (i - (j + 1)) + 1 := by omega
      rw [if_neg (fun z => absurd ((nI_leI (by omega) (by omega)).mp z) (by omega)), ob_eq (x_bnumber h (by omega)), ob_eq (x_bnumber h hi), zif (zeq (by omega) (by omega)), hk, al]
      by_cases g : bn B j = bn B i
      · rw [if_pos g, g]; simp
      · have : (bn B j != bn B i) = true := by simpa using g
        rw [if_neg g, nI_1, ih (j + 1) (by omega) (by omega), this, Bool.true_and]
theorem x_unlike_loop (h : WB B) : ∀ (fu i : Nat), i ≤ nB B → nB B - i < fu → f_X0_unlikeNumbers_b4 B fu (nI (ul B i)) (nI i) = some (nI (ul B (nB B))) := by
  have hn := h.1.2
  intro fu
  induction fu with
  | zero => intro i h1 h2; omega
  | succ fu ih =>
    intro i h1 h2
    rw [f_X0_unlikeNumbers_b4, h.1.1]
    by_cases q : i = nB B
    · rw [if_pos ((nI_leI (by omega) (by omega)).mpr (by omega)), q]
    · have hi : i < nB B := by omega
      have ih' := ih (i + 1) (by omega) (by omega)
      rw [ul, sm] at ih'
      have e : f_X0_isFirstOfItsNumber B (nI i) = some (if fo B i i then 1 else 0) := by
        rw [f_X0_isFirstOfItsNumber, fo_last i i 0 (by omega)]
        exact x_first_loop h hi 4096 0 (Nat.zero_le _) (by omega)
      rw [if_neg (fun z => absurd ((nI_leI (by omega) (by omega)).mp z) (by omega)), ob_eq e]
      by_cases g : fo B i i = true
      · rw [if_pos g, if_neg (by decide), f_X0_unlikeNumbers_b23, nI_1, nI_1]
        rw [if_pos g] at ih'
        exact ih'
      · rw [if_neg g, if_pos rfl, f_X0_unlikeNumbers_b23, nI_1]
        rw [if_neg g] at ih'
        exact ih'
theorem x_greatest_loop (h : WB B) : ∀ (fu i : Nat), i ≤ nB B → nB B - i < fu → f_X0_greatestNumber_b4 B fu (nI (gm B i)) (nI i) = some (nI (gm B (nB B))) := by
  have hn := h.1.2
  intro fu
  induction fu with
  | zero => intro i h1 h2; omega
  | succ fu ih =>
    intro i h1 h2
    rw [f_X0_greatestNumber_b4, h.1.1]
    by_cases q : i = nB B
    · rw [if_pos ((nI_leI (by omega) (by omega)).mpr (by omega)), q]
    · have hi : i < nB B := by omega
      have ih' := ih (i + 1) (by omega) (by omega)
      have a := (h.2 i hi).2.2.1
      have b := gm_le h i (by omega)
      rw [gm] at ih'
      rw [if_neg (fun z => absurd ((nI_leI (by omega) (by omega)).mp z) (by omega)), ob_eq (x_bnumber h hi), nI_1, zif (nI_ltI (by omega) (by omega))]
      by_cases g : gm B i < bn B i
      · rw [if_pos g]; rw [if_pos g] at ih'; exact ih'
      · rw [if_neg g]; rw [if_neg g] at ih'; exact ih'
/-- how many there are -/
def ma (B : ST_X0) : Int32 := if ul B (nB B) = 0 then 0 else (((nI (gm B (nB B)) - 9) * (nI (ul B (nB B)) + 1)) / nI (ul B (nB B))) - 1
theorem x_many {S : ST_X5} (h : WB S.2.1.2.1) : f_X5_many S = some (ma S.2.1.2.1) := by
  have hn := h.1.2
  have a := ul_le (B := S.2.1.2.1) (nB S.2.1.2.1)
  have u : f_X0_unlikeNumbers S.2.1.2.1 = some (nI (ul S.2.1.2.1 (nB S.2.1.2.1))) := by
    rw [f_X0_unlikeNumbers]; exact x_unlike_loop h 4096 0 (Nat.zero_le _) (by omega)
  have g : f_X0_greatestNumber S.2.1.2.1 = some (nI (gm S.2.1.2.1 (nB S.2.1.2.1))) := by
    rw [f_X0_greatestNumber]; exact x_greatest_loop h 4096 0 (Nat.zero_le _) (by omega)
  have z : nI (ul S.2.1.2.1 (nB S.2.1.2.1)) = 0 ↔ ul S.2.1.2.1 (nB S.2.1.2.1) = 0 := zeq (b := 0) (by omega) (by omega)
  rw [f_X5_many, ob_eq u, ob_eq g, ma, zif z]
  by_cases q : ul S.2.1.2.1 (nB S.2.1.2.1) = 0
  · rw [if_pos q, if_pos q]
  · rw [if_neg q, if_neg q, if_pos (fun w => q (z.mp w))]
theorem m_first_loop (hb : sB B M.2.1) (h : WB B) {i : Nat} (hi : i < nB B) (k : Int32 → Int32 → Int32 → Option Int32) (v w : Int32) : ∀ (fu j : Nat) (b : Bool), j ≤ i → i - j < fu → f_X6_many_b22 M k fu v w (nI i) (if b then 0 else 1) (nI j) = if (b && al (fun j => bn B j != bn B i) (i - j) j) then f_X6_many_b73 M k v (nI i) w 1 else f_X6_many_b73 M k v (nI i) w 0 := by
  have hn := h.1.2
  have a := (h.2 i hi).2.2.1
  intro fu
  induction fu with
  | zero => intro j b h1 h2; omega
  | succ fu ih =>
    intro j b h1 h2
    rw [f_X6_many_b22]
    by_cases q : j = i
    · rw [if_pos ((nI_leI (by omega) (by omega)).mpr (by omega)), q, Nat.sub_self, al]
      cases b <;> rfl
    · have c := (h.2 j (by omega)).2.2.1
      have hk : i - j = (i - (j + 1)) + 1 := by omega
      have s1 := ih (j + 1) false (by omega) (by omega)
      have s2 := ih (j + 1) true (by omega) (by omega)
      rw [if_neg (by decide), Bool.false_and, if_neg (by decide)] at s1
      rw [if_pos rfl, Bool.true_and] at s2
      rw [if_neg (fun z => absurd ((nI_leI (by omega) (by omega)).mp z) (by omega)), hk, al]
      cases b with
      | false =>
        rw [if_neg (by decide), f_X6_many_b49, f_X6_many_b54, nI_1, s1, Bool.false_and, if_neg (by decide)]
      | true =>
        rw [if_pos (by rfl), ob_eq (m_numb hb h (by omega)), ob_eq (m_numb hb h hi), zif (zeq (by omega) (by omega)), Bool.true_and]
        by_cases g : bn B j = bn B i
        · rw [if_pos g, f_X6_many_b49, f_X6_many_b54, nI_1, s1, g]; simp
        · have e : (bn B j != bn B i) = true := by simpa using g
          rw [if_neg g, f_X6_many_b54, nI_1, s2, e, Bool.true_and]
theorem m_many_loop (hb : sB B M.2.1) (h : WB B) : ∀ (fu i : Nat), i ≤ nB B → nB B - i < fu → f_X6_many_b6 M fu (nI (gm B i)) (nI (ul B i)) (nI i) = some (ma B) := by
  have hn := h.1.2
  intro fu
  induction fu with
  | zero => intro i h1 h2; omega
  | succ fu ih =>
    intro i h1 h2
    have lu := ul_le (B := B) i
    rw [f_X6_many_b6, hb.1, h.1.1]
    by_cases q : i = nB B
    · have z : nI (ul B (nB B)) = 0 ↔ ul B (nB B) = 0 := zeq (b := 0) (by rw [← q]; omega) (by omega)
      rw [if_pos ((nI_leI (by omega) (by omega)).mpr (by omega)), q, zif z, ma]
      by_cases q : ul B (nB B) = 0
      · rw [if_pos q, if_pos q]
      · rw [if_neg q, if_neg q, if_pos (fun w => q (z.mp w))]
    · have hi : i < nB B := by omega
      have ih' := ih (i + 1) (by omega) (by omega)
      have a := (h.2 i hi).2.2.1
      have b := gm_le h i (by omega)
      have f := m_first_loop hb h hi (f_X6_many_b6 M fu) (nI (gm B i)) (nI (ul B i)) 4096 0 true (Nat.zero_le _) (by omega)
      have e := fo_last (B := B) i i 0 (by omega)
      rw [fo] at e
      rw [if_pos rfl, Nat.sub_zero, ← e] at f
      have last : ∀ u, f_X6_many_b73 M (f_X6_many_b6 M fu) (nI (gm B i)) (nI i) (nI (ul B i)) (nI u) = f_X6_many_b6 M fu (nI (gm B (i + 1))) (nI (ul B i + u)) (nI (i + 1)) := by
        intro u
        rw [f_X6_many_b73, ob_eq (m_numb hb h hi), zif (nI_leI (by omega) (by omega)), gm]
        by_cases g : bn B i ≤ gm B i
        · rw [if_pos g, f_X6_many_b95, nI_add, nI_1, if_neg (by omega)]
        · rw [if_neg g, ob_eq (m_numb hb h hi), f_X6_many_b95, nI_add, nI_1, if_pos (by omega)]
      rw [if_neg (fun z => absurd ((nI_leI (by omega) (by omega)).mp z) (by omega))]
      refine Eq.trans f ?_
      by_cases g : fo B i i = true
      · rw [if_pos g]
        have := last 1
        rw [show ul B i + 1 = ul B (i + 1) by
          show sm (fun i => if fo B i i then 1 else 0) i + 1 = sm (fun i => if fo B i i then 1 else 0) (i + 1)
          rw [sm, if_pos g]] at this
        exact this.trans ih'
      · rw [if_neg g]
        have := last 0
        rw [show ul B i + 0 = ul B (i + 1) by
          show sm (fun i => if fo B i i then 1 else 0) i + 0 = sm (fun i => if fo B i i then 1 else 0) (i + 1)
          rw [sm, if_neg g]] at this
        exact this.trans ih'
theorem m_many (hb : sB B M.2.1) (h : WB B) : f_X6_many M = some (ma B) := by
  have hn := h.1.2
  rw [f_X6_many]
  exact m_many_loop hb h 4096 0 (Nat.zero_le _) (by omega)
end L
