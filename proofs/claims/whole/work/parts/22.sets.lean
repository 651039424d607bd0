/-! who passes, who is on a list, what is new, what it is worth (the class) -/
/-- those (bits) that are at a place on a day -/
def pas (F : ST_X1) (p d : Nat) : Nat := bo (fun e => place F e d == p) (nE F)
/-- on a list, itself or the one joined to it -/
def had (F : ST_X1) (L e : Nat) : Bool := L.testBit e || L.testBit (jo F e)
/-- the lesser ones (bits) of those of a set that are not on the list -/
def nw (F : ST_X1) (L S : Nat) : Nat := bo (fun e => decide (e ≤ jo F e) && had F S e && !had F L e) (nE F)
/-- what a set of lesser ones counts -/
def wv (F : ST_X1) (b : Nat) : Nat := sm (fun e => if b.testBit e then (if kd F e = 6 then 2 else 1) else 0) (nE F)
theorem pas_lt (F : ST_X1) (p d : Nat) : pas F p d < 2 ^ nE F := bo_lt _ _
theorem nw_lt (F : ST_X1) (L S : Nat) : nw F L S < 2 ^ nE F := bo_lt _ _
section X
variable {F : ST_X1} (h : WF F)
theorem x_passing_loop (h : WF F) {p d : Nat} (hp : p < 2 ^ 31) (hd : d < 2 ^ 31) : ∀ (fu i : Nat), i ≤ nE F → nE F - i < fu → f_X1_passing_b5 F fu (nI p) (nI d) (nI (bo (fun e => place F e d == p) i)) (nI i) = some (nI (pas F p d)) := by
  have h7 := h.n7
  intro fu
  induction fu with
  | zero => intro i h1 h2; omega
  | succ fu ih =>
    intro i h1 h2
    rw [f_X1_passing_b5, h.size]
    by_cases q : i = nE F
    · rw [if_pos ((nI_leI (by omega) (by omega)).mpr (by omega)), q]
      rfl
    · have hi : i < nE F := by omega
      have hpl := place_le h (d := d) hi
      rw [if_neg (fun z => absurd ((nI_leI (by omega) (by omega)).mp z) (by omega)), ob_eq (x_placeOn h hi hd), zif (zeq (by omega) hp)]
      have ih' := ih (i + 1) (by omega) (by omega)
      rw [bo] at ih'
      by_cases g : place F i d = p
      · rw [if_pos g, ob_eq (x_bit h hi), f_X1_passing_b34, zor, nI_1]
        rw [if_pos (by simpa using g)] at ih'
        exact ih'
      · rw [if_neg g, f_X1_passing_b34, nI_1]
        rw [if_neg (by simpa using g), Nat.or_zero] at ih'
        exact ih'
theorem x_passing (h : WF F) {p d : Nat} (hp : p < 2 ^ 31) (hd : d < 2 ^ 31) : f_X1_passing F (nI p) (nI d) = some (nI (pas F p d)) := by
  have h7 := h.n7
  rw [f_X1_passing]
  exact x_passing_loop h hp hd 4096 0 (Nat.zero_le _) (by omega)
theorem jo_facts (h : WF F) {e : Nat} (he : e < nE F) : jo F e < nE F ∧ jo F (jo F e) = e ∧ (F.2.2.2.1 e = -9 → jo F e = e) ∧ (F.2.2.2.1 e ≠ -9 → F.2.2.2.1 e = nI (jo F e) ∧ jo F e ≠ e) := by
  obtain ⟨h1, h2, h3⟩ := h.2.2.2.2.1 e he
  refine ⟨h2, h3, fun q => by rw [jo, if_pos q], fun q => ?_⟩
  rcases h1 with h1 | h1
  · exact absurd h1 q
  · exact h1
theorem and_two {L e j : Nat} : L &&& (2 ^ e ||| 2 ^ j) = 0 ↔ ¬ (L.testBit e || L.testBit j) = true := by
  constructor
  · intro h q
    have t : ∀ i, (L &&& (2 ^ e ||| 2 ^ j)).testBit i = false := fun i => by rw [h]; exact Nat.zero_testBit i
    simp only [Nat.testBit_and, Nat.testBit_or, Nat.testBit_two_pow] at t
    have t1 := t e
    have t2 := t j
    simp at t1 t2
    simp [t1, t2] at q
  · intro q
    simp only [Bool.or_eq_true, not_or, Bool.not_eq_true] at q
    apply Nat.eq_of_testBit_eq
    intro i
    simp only [Nat.testBit_and, Nat.testBit_or, Nat.testBit_two_pow, Nat.zero_testBit]
    by_cases a : e = i
    · subst a; simp [q.1]
    · by_cases b : j = i
      · subst b; simp [q.2]
      · simp [a, b]
theorem and_one {L e : Nat} : L &&& 2 ^ e = 0 ↔ L.testBit e = false := by
  have := and_two (L := L) (e := e) (j := e)
  rw [Nat.or_self] at this
  rw [this]
  cases L.testBit e <;> simp
theorem and_le (a b : Nat) : a &&& b ≤ a := Nat.and_le_left
theorem x_isOn (h : WF F) {L e : Nat} (he : e < nE F) (hL : L < 2 ^ 31) : f_X1_isOn F (nI L) (nI e) = some (if had F L e then 1 else 0) := by
  have h7 := h.n7
  obtain ⟨j1, j2, j3, j4⟩ := jo_facts h he
  have pe : 2 ^ e < 2 ^ 31 := pow_lt_31 (by omega)
  rw [f_X1_isOn, ob_eq (x_knows_in h he), if_neg (by decide), ob_eq (x_bit h he), if_pos (zin (by omega) (by omega)), zclamp (by omega), f_X1_isOn_b33]
  have key : ∀ b : Nat, 2 ^ e ||| b = 2 ^ e ||| 2 ^ jo F e → (if (nI L &&& (nI (2 ^ e) ||| nI b)) = 0 then some (0 : Int32) else some 1) = some (if had F L e then 1 else 0) := by
    intro b hb
    rw [zor, zand, hb, zL0, zif (zeq (Nat.lt_of_le_of_lt (and_le _ _) hL) (by omega))]
    have a := and_two (L := L) (e := e) (j := jo F e)
    by_cases g : had F L e = true
    · rw [if_neg (fun z => a.mp z g), if_pos g]
    · rw [if_pos (a.mpr g), if_neg g]
  by_cases q : F.2.2.2.1 e = -9
  · rw [q, ob_eq (x_bit_neg F zm9_lt)]
    exact key 0 (by rw [j3 q]; simp)
  · rw [(j4 q).1, ob_eq (x_bit h j1)]
    exact key _ rfl
theorem x_standIn (h : WF F) {e : Nat} (he : e < nE F) : f_X1_standIn F (nI e) = some (nI (min e (jo F e))) := by
  have h7 := h.n7
  obtain ⟨j1, j2, j3, j4⟩ := jo_facts h he
  have ec : (nI e).toNatClampNeg = e := zclamp (by omega)
  rw [f_X1_standIn, ob_eq (x_knows_in h he), if_neg (by decide), if_pos (zin (by omega) (by omega)), f_X1_standIn_b34]
  simp only [ec]
  by_cases q : F.2.2.2.1 e = -9
  · rw [q, ob_eq (x_knows_neg F zm9_lt), if_pos rfl, j3 q, Nat.min_self]
  · rw [(j4 q).1, ob_eq (x_knows_in h j1), if_neg (by decide), if_pos (zin (by omega) (by omega))]
    by_cases g : jo F e < e
    · rw [if_pos ((nI_ltI (by omega) (by omega)).mpr g), Nat.min_eq_right (by omega)]
    · rw [if_neg (fun z => g ((nI_ltI (by omega) (by omega)).mp z)), Nat.min_eq_left (by omega)]
/-- the lesser ones of those below i that a set holds and a property has -/
def lz (F : ST_X1) (g : Nat → Bool) : Nat → Nat
  | 0 => 0
  | i + 1 => lz F g i ||| (if g i then 2 ^ min i (jo F i) else 0)
theorem lz_tb (F : ST_X1) (g : Nat → Bool) (n f : Nat) : (lz F g n).testBit f = true ↔ ∃ e, e < n ∧ g e = true ∧ min e (jo F e) = f := by
  induction n with
  | zero => simp [lz]
  | succ n ih =>
    rw [lz, Nat.testBit_or, Bool.or_eq_true, ih]
    constructor
    · rintro (⟨e, h1, h2, h3⟩ | q)
      · exact ⟨e, by omega, h2, h3⟩
      · by_cases g1 : g n = true
        · rw [if_pos g1, Nat.testBit_two_pow] at q
          exact ⟨n, by omega, g1, by simpa using q⟩
        · rw [if_neg g1, Nat.zero_testBit] at q; cases q
    · rintro ⟨e, h1, h2, h3⟩
      by_cases q : e = n
      · subst q
        right
        rw [if_pos h2, Nat.testBit_two_pow]
        simpa using h3
      · exact Or.inl ⟨e, by omega, h2, h3⟩
theorem lz_lt (h : WF F) (g : Nat → Bool) {i : Nat} (hi : i ≤ nE F) : lz F g i < 2 ^ nE F := by
  apply Nat.lt_pow_two_of_testBit
  intro f hf
  cases q : (lz F g i).testBit f with
  | false => rfl
  | true =>
    obtain ⟨e, h1, h2, h3⟩ := (lz_tb F g i f).mp q
    have : min e (jo F e) ≤ e := Nat.min_le_left _ _
    omega
theorem had_jo (h : WF F) (L : Nat) {e : Nat} (he : e < nE F) : had F L (jo F e) = had F L e := by
  obtain ⟨j1, j2, -⟩ := jo_facts h he
  rw [had, had, j2, Bool.or_comm]
/-- over a property that both of a pair have or have not -/
theorem lz_pair (h : WF F) (S : Nat) (g : Nat → Bool) (hg : ∀ e, e < nE F → g (jo F e) = g e) : lz F (fun e => S.testBit e && g e) (nE F) = bo (fun e => decide (e ≤ jo F e) && had F S e && g e) (nE F) := by
  apply Nat.eq_of_testBit_eq
  intro f
  rw [bo_tb, Bool.eq_iff_iff, lz_tb]
  constructor
  · rintro ⟨e, h1, h2, h3⟩
    obtain ⟨j1, j2, -⟩ := jo_facts h h1
    simp only [Bool.and_eq_true] at h2
    have hfe : f = e ∨ f = jo F e := by omega
    have hfn : f < nE F := by omega
    have hle : f ≤ jo F f := by
      rcases hfe with q | q
      · rw [q]; omega
      · rw [q, j2]; omega
    have hs : had F S f = true := by
      rcases hfe with q | q
      · rw [q, had, h2.1]; simp
      · rw [q, had_jo h S h1, had, h2.1]; simp
    have hgf : g f = true := by
      rcases hfe with q | q
      · rw [q]; exact h2.2
      · rw [q, hg e h1]; exact h2.2
    simp [hfn, hle, hs, hgf]
  · intro q
    simp only [Bool.and_eq_true, decide_eq_true_eq] at q
    obtain ⟨hfn, ⟨hle, hs⟩, hgf⟩ := q
    obtain ⟨j1, j2, -⟩ := jo_facts h hfn
    rw [had, Bool.or_eq_true] at hs
    rcases hs with hs | hs
    · exact ⟨f, hfn, by simp [hs, hgf], by omega⟩
    · exact ⟨jo F f, j1, by simp [hs, hg f hfn, hgf], by rw [j2]; omega⟩
theorem x_newOf_loop (h : WF F) {S : Nat} (hS : S < 2 ^ 31) : ∀ (fu i : Nat), i ≤ nE F → nE F - i < fu → f_X1_newOf_b4 F fu (nI S) (nI (lz F (fun e => S.testBit e && !had F (uL F) e) i)) (nI i) = some (nI (nw F (uL F) S)) := by
  have h7 := h.n7
  have hU := h.2.2.2.2.2.2.2.1
  have pU : uL F < 2 ^ 31 := Nat.lt_of_lt_of_le hU.2 (Nat.le_trans (pow_le7 h7) (by omega))
  intro fu
  induction fu with
  | zero => intro i h1 h2; omega
  | succ fu ih =>
    intro i h1 h2
    rw [f_X1_newOf_b4, h.size]
    by_cases q : i = nE F
    · rw [if_pos ((nI_leI (by omega) (by omega)).mpr (by omega)), q, lz_pair h S (fun e => !had F (uL F) e) (fun e he => by rw [had_jo h _ he])]
      rfl
    · have hi : i < nE F := by omega
      have hmin : min i (jo F i) < nE F := by have := Nat.min_le_left i (jo F i); omega
      rw [if_neg (fun z => absurd ((nI_leI (by omega) (by omega)).mp z) (by omega)), ob_eq (x_bit h hi), zand, zL0, zif ((zeq (Nat.lt_of_le_of_lt (and_le _ _) hS) (by omega)).trans and_one)]
      have ih' := ih (i + 1) (by omega) (by omega)
      rw [lz] at ih'
      by_cases g : S.testBit i = false
      · rw [if_pos g, f_X1_newOf_b46, nI_1]
        rw [if_neg (by simp [g]), Nat.or_zero] at ih'
        exact ih'
      · rw [if_neg g, hU.1, ob_eq (x_isOn h hi pU)]
        by_cases g2 : had F (uL F) i = true
        · rw [if_pos g2, if_neg (by decide), f_X1_newOf_b46, nI_1]
          rw [if_neg (by simp [g2]), Nat.or_zero] at ih'
          exact ih'
        · rw [if_neg g2, if_pos (show (0:Int32) = nI 0 from rfl), ob_eq (x_standIn h hi), ob_eq (x_bit h hmin), f_X1_newOf_b46, zor, nI_1]
          rw [if_pos (by simp at g g2; simp [g, g2])] at ih'
          exact ih'
theorem x_newOf (h : WF F) {S : Nat} (hS : S < 2 ^ 31) : f_X1_newOf F (nI S) = some (nI (nw F (uL F) S)) := by
  have h7 := h.n7
  rw [f_X1_newOf]
  exact x_newOf_loop h hS 4096 0 (Nat.zero_le _) (by omega)
def pc7 (b : Nat) : Nat := sm (fun e => if b.testBit e then 1 else 0) 7
theorem bitCount7 : ∀ b, b < 128 → f_J6_bitCount_0f7a4 (nI b) = some (nI (pc7 b)) := by decide +kernel
theorem wv_le (h : WF F) (b : Nat) : wv F b ≤ 14 := by
  have h7 := h.n7
  have := sm_bound (f := fun e => if b.testBit e then (if kd F e = 6 then 2 else 1) else 0) (c := 2) (n := nE F) (fun i hi => by split; (split <;> omega); omega)
  unfold wv
  omega
theorem sm_more {f : Nat → Nat} {n m : Nat} (h : n ≤ m) (hz : ∀ i, n ≤ i → i < m → f i = 0) : sm f m = sm f n := by
  induction m with
  | zero => have : n = 0 := by omega
            subst this; rfl
  | succ m ih =>
    by_cases q : n = m + 1
    · subst q; rfl
    · rw [sm, ih (by omega) (fun i h1 h2 => hz i h1 (by omega)), hz m (by omega) (by omega), Nat.add_zero]
theorem x_worth (h : WF F) {b : Nat} (hb : b < 2 ^ nE F) : f_X1_worth F (nI b) = some (nI (wv F b)) := by
  have h7 := h.n7
  have hp := pow_le7 h7
  have hN := h.2.2.2.2.2.2.1
  have hNb := bo_lt (fun e => kd F e == 6) (nE F)
  rw [f_X1_worth, ob_eq (bitCount7 b (by omega)), hN, zand, ob_eq (bitCount7 _ (by have := and_le b (bo (fun e => kd F e == 6) (nE F)); omega)), nI_add]
  congr 2
  unfold pc7 wv
  rw [← sm_add, sm_more (n := nE F) h7]
  · apply sm_cong
    intro i hi
    rw [Nat.testBit_and, bo_tb]
    simp only [hi, decide_true, Bool.true_and]
    cases b.testBit i <;> simp
    by_cases q : kd F i = 6 <;> simp [q]
  · intro i h1 h2
    rw [Nat.testBit_and, tb_lt hb h1]
    simp
theorem x_worthOfAllNew (h : WF F) : f_X1_worthOfAllNew F = some (nI (wv F (nw F (uL F) 127))) := by
  rw [f_X1_worthOfAllNew, zL127, ob_eq (x_newOf h (by omega)), ob_eq (x_worth h (nw_lt _ _ _))]
end X
