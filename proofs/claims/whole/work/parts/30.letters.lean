/-! letters: what a statement looks like -/
def zN (Z : ST_X2) : Nat := Z.2.toNatClampNeg
def la (Z : ST_X2) (i : Nat) : Nat := (Z.1 i).toNatClampNeg
def WL (Z : ST_X2) : Prop := (Z.2 = nI (zN Z) ∧ zN Z ≤ 64) ∧ ∀ i, i < zN Z → Z.1 i = nI (la Z i) ∧ la Z i ≤ 255
def sT (Z : ST_X2) (M : ST_X6) : Prop := M.2.2.2.2.2.2.2.1 = Z.2 ∧ ∀ i, i < zN Z → M.2.2.2.2.2.1 i = Z.1 i
/-- the letter at a place; 999: none -/
def lt (Z : ST_X2) (i : Nat) : Nat := if i < zN Z then la Z i else 999
def sgn (a : Nat) : Int32 := if a = 999 then -1 else nI a
theorem lt_cases {Z : ST_X2} (h : WL Z) (i : Nat) : lt Z i < 256 ∨ lt Z i = 999 := by
  rw [lt]
  split
  · rename_i q; have := (h.2 i q).2; left; omega
  · exact Or.inr rfl
theorem sgn_of {a : Nat} (h : a < 256) : sgn a = nI a := by rw [sgn, if_neg (by omega)]
def ks (a : Nat) : Nat := if a = 99 then 0 else if a = 97 then 1 else if a = 119 then 2 else if a = 107 then 3 else if a = 120 then 4 else if a = 115 then 5 else if a = 110 then 6 else 7
/-- 0 a figure, 1 a kind, 2 the end -/
def okc (c a : Nat) : Bool := if c = 0 then decide (48 ≤ a) && decide (a ≤ 57) else if c = 1 then decide (ks a < 7) else a == 59
def lcode (c : Nat) : Int32 := if c = 0 then 48 else if c = 1 then 99 else 59
theorem x_sign {Z : ST_X2} (h : WL Z) {i : Nat} (hi : i < 2 ^ 31) : f_X2_sign Z (nI i) = some (sgn (lt Z i)) := by
  have h64 := h.1.2
  rw [f_X2_sign, if_neg (zn_neg hi), h.1.1, lt]
  by_cases q : i < zN Z
  · obtain ⟨a, b⟩ := h.2 i q
    rw [if_neg (fun z => absurd ((nI_leI (by omega) (by omega)).mp z) (by omega)), zL64, if_neg (fun z => absurd ((nI_leI (by omega) (by omega)).mp z) (by omega)), if_pos (zin (by omega) (by omega)), zclamp (by omega), if_pos q, a, sgn_of (by omega)]
  · rw [if_pos ((nI_leI (by omega) (by omega)).mpr (by omega)), if_neg q]
    rfl
theorem m_sign {Z : ST_X2} {M : ST_X6} (h : WL Z) (ht : sT Z M) {i : Nat} (hi : i < 2 ^ 31) (ha : M.2.2.2.2.2.2.2.2.1 = nI i) : f_X6_sign M = some (sgn (lt Z i)) := by
  have h64 := h.1.2
  rw [f_X6_sign, ha, ht.1, h.1.1, lt]
  by_cases q : i < zN Z
  · obtain ⟨a, b⟩ := h.2 i q
    rw [if_neg (fun z => absurd ((nI_leI (by omega) (by omega)).mp z) (by omega)), if_pos (zin (by omega) (by omega)), zclamp (by omega), if_pos q, ht.2 i q, a, sgn_of (by omega)]
  · rw [if_pos ((nI_leI (by omega) (by omega)).mpr (by omega)), if_neg q]
    rfl
theorem l_digit : ∀ a, a < 256 → (if sgn a - 48 < 0 then some (0 : Int32) else if 9 < sgn a - 48 then some 0 else some 1) = some (if okc 0 a then 1 else 0) := by decide +kernel
theorem l_digit' : (if sgn 999 - 48 < 0 then some (0 : Int32) else if 9 < sgn 999 - 48 then some 0 else some 1) = some (if okc 0 999 then 1 else 0) := by decide +kernel
theorem l_kind : ∀ a, a < 256 → f_J0_indexOf_0f7a4 5 (((nI a).toUInt32 % 65536).toInt32) = some (if ks a < 7 then nI (ks a) else -1) := by decide +kernel
theorem l_end : ∀ a, a < 256 → (if sgn a = 59 then some (1 : Int32) else some 0) = some (if okc 2 a then 1 else 0) := by decide +kernel
theorem l_end' : (if sgn 999 = 59 then some (1 : Int32) else some 0) = some (if okc 2 999 then 1 else 0) := by decide +kernel
theorem l_isIn : ∀ a, a < 256 → f_X6_isIn (sgn a - 48) 10 = some (if okc 0 a then 1 else 0) := by decide +kernel
theorem l_isIn' : f_X6_isIn (sgn 999 - 48) 10 = some (if okc 0 999 then 1 else 0) := by decide +kernel
theorem l_mkind : ∀ a, a < 256 → f_X6_kindOf (sgn a) = some (if ks a < 7 then nI (ks a) else -9) := by decide +kernel
theorem l_mkind' : f_X6_kindOf (sgn 999) = some (if ks 999 < 7 then nI (ks 999) else -9) := by decide +kernel
theorem x_kind {Z : ST_X2} (h : WL Z) {i : Nat} (hi : i < 2 ^ 31) : f_X2_kind Z (nI i) = some (if ks (lt Z i) < 7 then nI (ks (lt Z i)) else -1) := by
  rw [f_X2_kind, ob_eq (x_sign h hi)]
  rcases lt_cases h i with q | q
  · rw [sgn_of q, if_pos (nI_pos' (by omega)), ob_eq (l_kind _ q)]
  · rw [q, sgn, if_pos rfl, if_neg (by decide)]
    rfl
theorem x_suits {Z : ST_X2} (h : WL Z) {i c : Nat} (hi : i < 2 ^ 31) (hc : c < 3) : f_X2_suits Z (nI i) (lcode c) = some (if okc c (lt Z i) then 1 else 0) := by
  have hd : f_X2_digit Z (nI i) = some (sgn (lt Z i) - 48) := by rw [f_X2_digit, ob_eq (x_sign h hi)]
  rw [f_X2_suits]
  have c3 : c = 0 ∨ c = 1 ∨ c = 2 := by omega
  rcases c3 with rfl | rfl | rfl
  · rw [if_pos (by decide), ob_eq hd, ob_eq hd]
    rcases lt_cases h i with q | q
    · exact l_digit _ q
    · rw [q]; exact l_digit'
  · rw [if_neg (by decide), if_pos (by decide), ob_eq (x_kind h hi)]
    have e : okc 1 (lt Z i) = decide (ks (lt Z i) < 7) := by rw [okc, if_neg (by decide), if_pos rfl]
    rw [e]
    by_cases g : ks (lt Z i) < 7
    · rw [if_pos g, if_neg (zn_neg (by omega)), if_pos (by simpa using g)]
    · rw [if_neg g, if_pos zm1_lt, if_neg (by simpa using g)]
  · rw [if_neg (by decide), if_neg (by decide), ob_eq (x_sign h hi)]
    rcases lt_cases h i with q | q
    · exact l_end _ q
    · rw [q]; exact l_end'
/-- runs along a pattern: whether it fits, and where it ends or fails -/
def run (g : Nat → Nat) : List Nat → Nat → Bool × Nat
  | [], i => (true, i)
  | c :: cs, i => if okc c (g i) then run g cs (i + 1) else (false, i)
theorem run_app (g : Nat → Nat) (p r : List Nat) : ∀ i, run g (p ++ r) i = if (run g p i).1 then run g r (run g p i).2 else run g p i := by
  induction p with
  | nil => intro i; rfl
  | cons c cs ih =>
    intro i
    rw [List.cons_append, run, run]
    by_cases q : okc c (g i) = true
    · rw [if_pos q, if_pos q, ih]
    · rw [if_neg q, if_neg q]; rfl
theorem run_len (g : Nat → Nat) (p : List Nat) : ∀ i, (run g p i).1 = true → (run g p i).2 = i + p.length := by
  induction p with
  | nil => intro i _; rfl
  | cons c cs ih =>
    intro i
    rw [run]
    by_cases q : okc c (g i) = true
    · rw [if_pos q]; intro r; rw [ih (i + 1) r, List.length_cons]; omega
    · rw [if_neg q]; intro r; cases r
theorem run_ge (g : Nat → Nat) (p : List Nat) : ∀ i, i ≤ (run g p i).2 ∧ (run g p i).2 ≤ i + p.length := by
  induction p with
  | nil => intro i; exact ⟨Nat.le_refl _, Nat.le_refl _⟩
  | cons c cs ih =>
    intro i
    rw [run, List.length_cons]
    by_cases q : okc c (g i) = true
    · rw [if_pos q]; have := ih (i + 1); omega
    · rw [if_neg q]; show i ≤ i ∧ i ≤ _; omega
theorem okc_999 {c : Nat} (h : c < 3) : okc c 999 = false := by
  have : ∀ c, c < 3 → okc c 999 = false := by decide
  exact this c h
/-- what fits lies inside -/
theorem run_in {Z : ST_X2} (p : List Nat) (hp : ∀ c ∈ p, c < 3) : ∀ i, (run (lt Z) p i).1 = true → p ≠ [] → i + p.length ≤ zN Z := by
  induction p with
  | nil => intro i _ q; exact absurd rfl q
  | cons c cs ih =>
    intro i r _
    rw [run] at r
    by_cases q : okc c (lt Z i) = true
    · rw [if_pos q] at r
      have hi : i < zN Z := by
        by_cases g : i < zN Z
        · exact g
        · rw [lt, if_neg g, okc_999 (hp c (by simp))] at q; cases q
      rw [List.length_cons]
      by_cases e : cs = []
      · subst e; simp; omega
      · have := ih (fun c hc => hp c (by simp [hc])) (i + 1) r e; omega
    · rw [if_neg q] at r; cases r
def pE : List Nat := [0, 0, 1, 0, 0, 0, 0, 0, 0, 0, 0, 2]
def pU : List Nat := [0, 0, 2]
def pJ : List Nat := [0, 0, 0, 0, 2]
def pat (a : Nat) : List Nat := if a = 101 then pE else if a = 106 then pJ else if a = 117 then pU else if a = 102 then pU else []
def stm (g : Nat → Nat) (i : Nat) : Bool × Nat := if pat (g i) = [] then (false, i) else run g (pat (g i)) (i + 1)
/-- where one is stuck, or -1 -/
def ph (g : Nat → Nat) (z : Nat) : Nat → Nat → Int32
  | 0, _ => -1
  | k + 1, i => if (stm g i).1 then (if (stm g i).2 < z then ph g z k (stm g i).2 else -1) else nI (stm g i).2
theorem pat_cases (a : Nat) : pat a = [] ∨ (a = 101 ∧ pat a = pE) ∨ (a = 106 ∧ pat a = pJ) ∨ (a = 117 ∧ pat a = pU) ∨ (a = 102 ∧ pat a = pU) := by
  unfold pat
  by_cases h1 : a = 101
  · right; left; exact ⟨h1, if_pos h1⟩
  · rw [if_neg h1]
    by_cases h2 : a = 106
    · right; right; left; exact ⟨h2, if_pos h2⟩
    · rw [if_neg h2]
      by_cases h3 : a = 117
      · right; right; right; left; exact ⟨h3, if_pos h3⟩
      · rw [if_neg h3]
        by_cases h4 : a = 102
        · right; right; right; right; exact ⟨h4, if_pos h4⟩
        · left; exact if_neg h4
theorem pat_lt3 (a : Nat) : ∀ c ∈ pat a, c < 3 := by
  have e : ∀ c ∈ pE, c < 3 := by decide
  have u : ∀ c ∈ pU, c < 3 := by decide
  have j : ∀ c ∈ pJ, c < 3 := by decide
  rcases pat_cases a with q | ⟨-, q⟩ | ⟨-, q⟩ | ⟨-, q⟩ | ⟨-, q⟩ <;> rw [q]
  · intro c hc; cases hc
  · exact e
  · exact j
  · exact u
  · exact u
theorem pat_len (a : Nat) : (pat a).length ≤ 12 := by
  rcases pat_cases a with q | ⟨-, q⟩ | ⟨-, q⟩ | ⟨-, q⟩ | ⟨-, q⟩ <;> rw [q] <;> decide
theorem stm_ok {Z : ST_X2} {i : Nat} (h : (stm (lt Z) i).1 = true) : pat (lt Z i) ≠ [] ∧ (run (lt Z) (pat (lt Z i)) (i + 1)).1 = true ∧ (stm (lt Z) i).2 = i + 1 + (pat (lt Z i)).length ∧ (stm (lt Z) i).2 ≤ zN Z := by
  rw [stm] at h ⊢
  by_cases q : pat (lt Z i) = []
  · rw [if_pos q] at h; cases h
  · rw [if_neg q] at h ⊢
    have a := run_len _ _ _ h
    have b := run_in _ (pat_lt3 _) _ h q
    exact ⟨q, h, a, by rw [a]; omega⟩
theorem stm_gt {Z : ST_X2} {i : Nat} (h : (stm (lt Z) i).1 = true) : i < (stm (lt Z) i).2 := by
  obtain ⟨a, b, c, d⟩ := stm_ok h
  omega
theorem stm_le (g : Nat → Nat) (i : Nat) : (stm g i).2 ≤ i + 13 := by
  rw [stm]
  split
  · show i ≤ _; omega
  · have a := run_ge g (pat (g i)) (i + 1)
    have b := pat_len (g i)
    omega
/-- a string of the class's is a pattern -/
def sok (n : Nat) : List Nat → Nat → Bool
  | [], v => f_J0_length_8abf5 n == some (nI v)
  | c :: cs, v => (f_J0_charAt_5068e n (nI v) == some (lcode c)) && ((match f_J0_length_8abf5 n with | some l => decide (¬ l ≤ nI v) | none => false) && sok n cs (v + 1))
theorem sok_cons {n c v : Nat} {cs : List Nat} (h : sok n (c :: cs) v = true) : f_J0_charAt_5068e n (nI v) = some (lcode c) ∧ (∃ l, f_J0_length_8abf5 n = some l ∧ ¬ l ≤ nI v) ∧ sok n cs (v + 1) = true := by
  rw [sok, Bool.and_eq_true, Bool.and_eq_true] at h
  obtain ⟨a, b, c⟩ := h
  refine ⟨by simpa using a, ?_, c⟩
  cases q : f_J0_length_8abf5 n with
  | none => rw [q] at b; cases b
  | some l => rw [q] at b; exact ⟨l, rfl, by simpa using b⟩
theorem x_shape {Z : ST_X2} (h : WL Z) {n : Nat} (hn : n < 6) (k2 : Int32 → Option Int32) : ∀ p v j fu, (∀ c ∈ p, c < 3) → sok n p v = true → p.length < fu → j + p.length < 2 ^ 30 → f_X2_stuckPlace_b22 Z k2 fu (nI j) n (nI v) = if (run (lt Z) p (j + 1)).1 then (if (run (lt Z) p (j + 1)).2 < zN Z then k2 (nI (run (lt Z) p (j + 1)).2) else some (-1)) else some (nI (run (lt Z) p (j + 1)).2) := by
  have h64 := h.1.2
  intro p
  induction p with
  | nil =>
    intro v j fu _ hs hf hj
    obtain ⟨fu, rfl⟩ : ∃ z, fu = z + 1 := ⟨fu - 1, by simp at hf; omega⟩
    have e : f_J0_length_8abf5 n = some (nI v) := by rw [sok] at hs; simpa using hs
    simp only [List.length_nil] at hj
    rw [f_X2_stuckPlace_b22, if_pos hn, ob_eq e, if_pos (Int32.le_refl _), h.1.1, nI_1, run, if_pos rfl, zif (nI_ltI (by omega) (by omega))]
  | cons c cs ih =>
    intro v j fu hp hs hf hj
    obtain ⟨fu, rfl⟩ : ∃ z, fu = z + 1 := ⟨fu - 1, by simp at hf; omega⟩
    obtain ⟨a, ⟨l, b1, b2⟩, d⟩ := sok_cons hs
    rw [List.length_cons] at hf hj
    rw [f_X2_stuckPlace_b22, if_pos hn, ob_eq b1, if_neg b2, ob_eq a, nI_1, ob_eq (x_suits h (by omega) (hp c (by simp))), run]
    by_cases q : okc c (lt Z (j + 1)) = true
    · rw [if_pos q, if_neg (by decide), if_pos q, nI_1]
      exact ih (v + 1) (j + 1) fu (fun c hc => hp c (by simp [hc])) d (by omega) (by omega)
    · rw [if_neg q, if_pos rfl, if_neg q, if_neg Bool.false_ne_true]
theorem x_stuck_loop {Z : ST_X2} (h : WL Z) : ∀ k fu i, i ≤ 64 → zN Z - i < k → k ≤ fu → f_X2_stuckPlace_b2 Z fu (nI i) = some (ph (lt Z) (zN Z) k i) := by
  have h64 := h.1.2
  intro k
  induction k with
  | zero => intro fu i _ hk; omega
  | succ k ih =>
    intro fu i hi hk hf
    obtain ⟨fu, rfl⟩ : ∃ z, fu = z + 1 := ⟨fu - 1, by omega⟩
    rw [f_X2_stuckPlace_b2, ob_eq (x_sign h (by omega)), ph]
    have go : ∀ n, n < 4 → f_X2_shapeFrom (sgn (lt Z i)) = some n → pat (lt Z i) ≠ [] → sok n (pat (lt Z i)) 1 = true → f_J0_isEmpty_aae02 n = some 0 → ((f_X2_shapeFrom (sgn (lt Z i))).bind fun r8 => if r8 < 6 then ((f_J0_isEmpty_aae02 r8).bind fun r9 => if r9 = 0 then (f_X2_stuckPlace_b22 Z (f_X2_stuckPlace_b2 Z fu) 4096 (nI i) r8 1) else some (nI i)) else none) = some (if (stm (lt Z) i).1 then (if (stm (lt Z) i).2 < zN Z then ph (lt Z) (zN Z) k (stm (lt Z) i).2 else -1) else nI (stm (lt Z) i).2) := by
      intro n hn e1 e2 e3 e4
      have e5 : stm (lt Z) i = run (lt Z) (pat (lt Z i)) (i + 1) := by rw [stm, if_neg e2]
      have pl := pat_len (lt Z i)
      rw [ob_eq e1, if_pos (by omega), ob_eq e4, if_pos rfl]
      refine (x_shape h (by omega) _ _ 1 i 4096 (pat_lt3 _) e3 (by omega) (by omega)).trans ?_
      rw [← e5]
      by_cases q : (stm (lt Z) i).1 = true
      · have gt := stm_gt q
        have le := (stm_ok q).2.2.2
        rw [if_pos q, if_pos q]
        by_cases q2 : (stm (lt Z) i).2 < zN Z
        · rw [if_pos q2, if_pos q2]
          exact ih fu _ (by omega) (by omega) (by omega)
        · rw [if_neg q2, if_neg q2]
      · rw [if_neg q, if_neg q]
    rcases pat_cases (lt Z i) with q | ⟨a, q⟩ | ⟨a, q⟩ | ⟨a, q⟩ | ⟨a, q⟩
    · have hs : f_X2_shapeFrom (sgn (lt Z i)) = some 4 := by
        have k1 : ∀ a, a < 256 → pat a = [] → f_X2_shapeFrom (sgn a) = some 4 := by decide +kernel
        rcases lt_cases h i with w | w
        · exact k1 _ w q
        · rw [w]; decide
      have e : stm (lt Z) i = (false, i) := by rw [stm, if_pos q]
      rw [ob_eq hs, if_pos (by omega), ob_eq (show f_J0_isEmpty_aae02 4 = some 1 by decide +kernel), if_neg (by decide), e]
      rfl
    · exact go 0 (by omega) (by rw [a]; decide) (by rw [q]; decide) (by rw [q]; decide +kernel) (by decide +kernel)
    · exact go 1 (by omega) (by rw [a]; decide) (by rw [q]; decide) (by rw [q]; decide +kernel) (by decide +kernel)
    · exact go 2 (by omega) (by rw [a]; decide) (by rw [q]; decide) (by rw [q]; decide +kernel) (by decide +kernel)
    · exact go 3 (by omega) (by rw [a]; decide) (by rw [q]; decide) (by rw [q]; decide +kernel) (by decide +kernel)
theorem x_stuck {Z : ST_X2} (h : WL Z) : f_X2_stuckPlace Z = some (ph (lt Z) (zN Z) 65 0) := by
  have h64 := h.1.2
  rw [f_X2_stuckPlace]
  exact x_stuck_loop h 65 4096 0 (by omega) (by omega) (by omega)
