/-! friends; all that is new; plans -/
theorem lz_cong {F : ST_X1} {g g2 : Nat → Bool} {n : Nat} (h : ∀ i, i < n → g i = g2 i) : lz F g n = lz F g2 n := by
  induction n with
  | zero => rfl
  | succ n ih => rw [lz, lz, ih (fun i hi => h i (by omega)), h n (by omega)]
theorem all_tb {n i : Nat} (h : n ≤ 7) (hi : i < n) : (127 : Nat).testBit i = true := by
  have : ∀ i, i < 7 → (127 : Nat).testBit i = true := by decide
  exact this i (by omega)
theorem x_more_loop {F : ST_X1} (h : WF F) : ∀ (fu i : Nat), i ≤ nE F → nE F - i < fu → f_X1_worthBeyondFriend_b4 F fu (nI (lz F (fun e => had F (uL F) e && !had F (fL F) e) i)) (nI i) = some (nI (wv F (lz F (fun e => had F (uL F) e && !had F (fL F) e) (nE F)))) := by
  have h7 := h.n7
  have hu := uL_lt h
  have hf := fL_lt h
  intro fu
  induction fu with
  | zero => intro i h1 h2; omega
  | succ fu ih =>
    intro i h1 h2
    rw [f_X1_worthBeyondFriend_b4, h.size]
    by_cases q : i = nE F
    · rw [if_pos ((nI_leI (by omega) (by omega)).mpr (by omega)), q, ob_eq (x_worth h (lz_lt h _ (Nat.le_refl _)))]
    · have hi : i < nE F := by omega
      have hmin : min i (jo F i) < nE F := by have := Nat.min_le_left i (jo F i); omega
      rw [if_neg (fun z => absurd ((nI_leI (by omega) (by omega)).mp z) (by omega)), h.2.2.2.2.2.2.2.1.1, h.2.2.2.2.2.2.2.2.1, ob_eq (x_isOn h hi (by omega))]
      have ih' := ih (i + 1) (by omega) (by omega)
      rw [lz] at ih'
      by_cases g : had F (uL F) i = true
      · rw [if_pos g, if_neg (by decide), ob_eq (x_isOn h hi (by omega))]
        by_cases g2 : had F (fL F) i = true
        · rw [if_pos g2, if_neg (by decide), f_X1_worthBeyondFriend_b48, nI_1]
          rw [if_neg (by simp [g2]), Nat.or_zero] at ih'
          exact ih'
        · rw [if_neg g2, if_pos rfl, ob_eq (x_standIn h hi), ob_eq (x_bit h hmin), f_X1_worthBeyondFriend_b48, zor, nI_1]
          rw [if_pos (by simp [g, g2])] at ih'
          exact ih'
      · rw [if_neg g, if_pos rfl, f_X1_worthBeyondFriend_b48, nI_1]
        rw [if_neg (by simp [g]), Nat.or_zero] at ih'
        exact ih'
/-- of one's own, beyond the friend's -/
def mo (F : ST_X1) : Nat := wv F (bo (fun e => decide (e ≤ jo F e) && had F 127 e && (had F (uL F) e && !had F (fL F) e)) (nE F))
theorem x_more {F : ST_X1} (h : WF F) : f_X1_worthBeyondFriend F = some (nI (mo F)) := by
  have h7 := h.n7
  rw [f_X1_worthBeyondFriend]
  have := x_more_loop h 4096 0 (Nat.zero_le _) (by omega)
  rw [mo, ← lz_pair h 127 (fun e => had F (uL F) e && !had F (fL F) e) (fun e he => by rw [had_jo h _ he, had_jo h _ he]), lz_cong (g := fun e => Nat.testBit 127 e && _) (g2 := fun e => had F (uL F) e && !had F (fL F) e) (fun i hi => by rw [all_tb h7 hi, Bool.true_and])]
  exact this
theorem m_more_loop {F : ST_X1} {M : ST_X6} (hs : sF F M.2.1) (h : WF F) : ∀ (fu i : Nat), i ≤ nE F → nE F - i < fu → f_X6_more_b4 M fu (nI (bo (fun e => !had F (fL F) e) i)) (nI i) = some (nI (sm (ww F (bo (fun e => !had F (fL F) e) (nE F)) true) (nE F))) := by
  have h7 := h.n7
  have hf := fL_lt h
  intro fu
  induction fu with
  | zero => intro i h1 h2; omega
  | succ fu ih =>
    intro i h1 h2
    rw [f_X6_more_b4, hs.1, h.size]
    by_cases q : i = nE F
    · have a := bo_lt (fun e => !had F (fL F) e) (nE F)
      have b := pow_le7 h7
      have c := m_worth hs h (S := bo (fun e => !had F (fL F) e) (nE F)) (by omega) true
      rw [if_pos rfl] at c
      rw [if_pos ((nI_leI (by omega) (by omega)).mpr (by omega)), q, ob_eq c]
    · have hi : i < nE F := by omega
      rw [if_neg (fun z => absurd ((nI_leI (by omega) (by omega)).mp z) (by omega)), ob_eq (m_groupOf hs h hi), hs.2.2.1, h.2.2.2.2.2.2.2.2.1, zif (m_group_and h hi (by omega))]
      have ih' := ih (i + 1) (by omega) (by omega)
      rw [bo] at ih'
      by_cases g : had F (fL F) i = true
      · rw [if_neg (fun z => z g), f_X6_more_b35, nI_1]
        rw [if_neg (by simp [g]), Nat.or_zero] at ih'
        exact ih'
      · rw [if_pos g, zshl (by omega), f_X6_more_b35, zor, nI_1]
        rw [if_pos (by simp [g])] at ih'
        exact ih'
theorem m_more {F : ST_X1} {M : ST_X6} (hs : sF F M.2.1) (h : WF F) : f_X6_more M = some (nI (mo F)) := by
  have h7 := h.n7
  rw [f_X6_more]
  have e : sm (ww F (bo (fun e => !had F (fL F) e) (nE F)) true) (nE F) = mo F := by
    unfold mo wv
    apply sm_cong
    intro i hi
    obtain ⟨j1, j2, -⟩ := jo_facts h hi
    have hh : had F (bo (fun e => !had F (fL F) e) (nE F)) i = !had F (fL F) i := by
      rw [had, bo_tb, bo_tb]
      simp only [hi, j1, decide_true, Bool.true_and]
      rw [had_jo h _ hi, Bool.or_self]
    have h2 : had F 127 i = true := by rw [had, all_tb h7 hi]; rfl
    rw [ww, hh, bo_tb, h2]
    simp only [hi, decide_true, Bool.true_and, Bool.and_true]
    by_cases a : i ≤ jo F i <;> cases had F (fL F) i <;> cases had F (uL F) i <;> simp [a]
  rw [← e]
  exact m_more_loop hs h 4096 0 (Nat.zero_le _) (by omega)
theorem nw_all {F : ST_X1} (h : WF F) (L : Nat) : nw F L 127 = nw F L (2 ^ nE F - 1) := by
  have h7 := h.n7
  apply bo_cong
  intro i hi
  obtain ⟨j1, j2, -⟩ := jo_facts h hi
  simp only [had, all_tb h7 hi, Nat.testBit_two_pow_sub_one, hi, decide_true, Bool.true_or]
theorem m_allNew {F : ST_X1} {M : ST_X6} (hs : sF F M.2.1) (h : WF F) : f_X6_allNew M = some (nI (wv F (nw F (uL F) 127))) := by
  have h7 := h.n7
  have hp := pow_le7 h7
  have h1 := Nat.two_pow_pos (nE F)
  rw [f_X6_allNew, hs.1, h.size, zshl (by omega), zL1, pk_sub (by omega), ob_eq (m_newOf hs h (by omega)), nw_all h]
/-! a search over plans, depth first -/
abbrev BB : Type := (Nat → Nat) × Int32
def pl (g : Nat → BB → BB) : Nat → Nat → BB → BB
  | 0, _, b => b
  | k + 1, p, b => pl g k (p + 1) (g p b)
/-- what it costs to go to p -/
def co (d : Nat) (tr : Nat → Nat) (p : Nat) : Nat := if d = 0 then 0 else (p - tr (d - 1)) + (tr (d - 1) - p)
def st (tr : Nat → Nat) (d p : Nat) : Nat → Nat := fun i => if i = d then p else tr i
def dfs (A : Nat → Nat → Nat) (val : Nat → Nat) : Nat → Nat → Nat → Nat → (Nat → Nat) → BB → BB
  | 0, _, _, S, tr, b => if b.2 < nI (val S) then (tr, nI (val S)) else b
  | k + 1, d, c, S, tr, b => pl (fun p b => if co d tr p ≤ c then dfs A val k (d + 1) (c - co d tr p) (S ||| A d p) (st tr d p) b else b) 5 0 b
theorem pl_stop {g : Nat → BB → BB} {b : BB} : ∀ k p, p + k = 5 → (∀ p, p < 5 → g p b = b) → pl g k p b = b := by
  intro k
  induction k with
  | zero => intro p _ _; rfl
  | succ k ih => intro p hp hg; rw [pl, hg p (by omega)]; exact ih (p + 1) (by omega) hg
theorem dfs_stop {A : Nat → Nat → Nat} {val : Nat → Nat} {n : Nat} (Q : Nat → Prop) (m : Int32) (hv : ∀ S, Q S → nI (val S) ≤ m) (hs : ∀ S d p, Q S → d < n → p < 5 → Q (S ||| A d p)) : ∀ k d c S tr b, d + k = n → Q S → m ≤ b.2 → dfs A val k d c S tr b = b := by
  intro k
  induction k with
  | zero =>
    intro d c S tr b hd hq hm
    rw [dfs, if_neg]
    intro z
    exact absurd (Int32.le_trans (hv S hq) hm) (Int32.not_le.mpr z)
  | succ k ih =>
    intro d c S tr b hd hq hm
    rw [dfs]
    apply pl_stop 5 0 rfl
    intro p hp
    split
    · exact ih (d + 1) _ _ _ b (by omega) (hs S d p hq (by omega) hp) hm
    · rfl
theorem pl_keep {g : Nat → BB → BB} (hg : ∀ p b, 0 ≤ b.2 → 0 ≤ (g p b).2) : ∀ k p b, 0 ≤ b.2 → 0 ≤ (pl g k p b).2 := by
  intro k
  induction k with
  | zero => intro p b hb; exact hb
  | succ k ih => intro p b hb; rw [pl]; exact ih (p + 1) _ (hg p b hb)
theorem pl_some {g : Nat → BB → BB} (hg : ∀ p b, 0 ≤ b.2 → 0 ≤ (g p b).2) {q : Nat} (hq : ∀ b, 0 ≤ (g q b).2) : ∀ k p b, p ≤ q → q < p + k → 0 ≤ (pl g k p b).2 := by
  intro k
  induction k with
  | zero => intro p b h1 h2; omega
  | succ k ih =>
    intro p b h1 h2
    rw [pl]
    by_cases e : p = q
    · subst e; exact pl_keep hg k _ _ (hq b)
    · exact ih (p + 1) _ (by omega) (by omega)
theorem dfs_keep {A : Nat → Nat → Nat} {val : Nat → Nat} (hv : ∀ S, val S < 2 ^ 31) : ∀ k d c S tr b, 0 ≤ b.2 → 0 ≤ (dfs A val k d c S tr b).2 := by
  intro k
  induction k with
  | zero => intro d c S tr b hb; rw [dfs]; split; exact nI_pos' (hv S); exact hb
  | succ k ih =>
    intro d c S tr b hb
    rw [dfs]
    refine pl_keep (fun p b hb => ?_) 5 0 b hb
    split
    · exact ih _ _ _ _ _ hb
    · exact hb
theorem dfs_some {A : Nat → Nat → Nat} {val : Nat → Nat} (hv : ∀ S, val S < 2 ^ 31) : ∀ k d c S tr b, (∀ i, i < d → tr i < 5) → 0 ≤ (dfs A val k d c S tr b).2 := by
  intro k
  induction k with
  | zero =>
    intro d c S tr b _
    rw [dfs]
    split
    · exact nI_pos' (hv S)
    · rename_i g
      exact Int32.le_trans (nI_pos' (hv S)) (Int32.not_lt.mp g)
  | succ k ih =>
    intro d c S tr b ht
    rw [dfs]
    have st5 : ∀ p, p < 5 → ∀ i, i < d + 1 → st tr d p i < 5 := by
      intro p hp i hi
      rw [st]; split
      · exact hp
      · exact ht i (by omega)
    have hq : ∃ q, q < 5 ∧ co d tr q = 0 := by
      by_cases e : d = 0
      · exact ⟨0, by omega, by rw [co, if_pos e]⟩
      · exact ⟨tr (d - 1), ht _ (by omega), by rw [co, if_neg e]; omega⟩
    obtain ⟨q, q1, q2⟩ := hq
    refine pl_some (q := q) (fun p b hb => ?_) (fun b => ?_) 5 0 b (by omega) (by omega)
    · split
      · exact dfs_keep hv _ _ _ _ _ _ hb
      · exact hb
    · rw [if_pos (by omega)]
      exact ih _ _ _ _ _ (st5 q q1)
theorem zamount {p q : Nat} (hp : p < 5) (hq : q < 5) : (if 0 ≤ (nI p - nI q) then (nI p - nI q) else 0 - (nI p - nI q)) = nI ((p - q) + (q - p)) := by
  have : ∀ p, p < 5 → ∀ q, q < 5 → (if 0 ≤ (nI p - nI q) then (nI p - nI q) else 0 - (nI p - nI q)) = nI ((p - q) + (q - p)) := by decide +kernel
  exact this p hp q hq
theorem mamount {p q : Nat} (hp : p < 5) (hq : q < 5) : f_X6_amount (nI p - nI q) = some (nI ((p - q) + (q - p))) := by
  have : ∀ p, p < 5 → ∀ q, q < 5 → f_X6_amount (nI p - nI q) = some (nI ((p - q) + (q - p))) := by decide +kernel
  exact this p hp q hq
section P
variable {F : ST_X1} {t n : Nat}
def pA (F : ST_X1) (t : Nat) (d p : Nat) : Nat := pas F p (t + d)
def pV (F : ST_X1) (S : Nat) : Nat := wv F (nw F (uL F) S)
def pN (F : ST_X1) (t : Nat) (j : Nat) : Nat := nw F (uL F) (pA F t (j / 5) (j % 5))
def pQ (F : ST_X1) (t n : Nat) (S : Nat) : Prop := ∀ i, (nw F (uL F) S).testBit i = true → (orr (pN F t) (5 * n)).testBit i = true
theorem orr_tb (f : Nat → Nat) (n i : Nat) : (orr f n).testBit i = true ↔ ∃ j, j < n ∧ (f j).testBit i = true := by
  induction n with
  | zero => simp [orr]
  | succ n ih =>
    rw [orr, Nat.testBit_or, Bool.or_eq_true, ih]
    constructor
    · rintro (⟨j, a, b⟩ | q)
      · exact ⟨j, by omega, b⟩
      · exact ⟨n, by omega, q⟩
    · rintro ⟨j, a, b⟩
      by_cases e : j = n
      · subst e; exact Or.inr b
      · exact Or.inl ⟨j, by omega, b⟩
theorem wv_mono {a b : Nat} (h : ∀ i, a.testBit i = true → b.testBit i = true) : wv F a ≤ wv F b := by
  unfold wv
  apply sm_le
  intro i _
  cases q : a.testBit i with
  | false => simp
  | true => rw [h i q]; exact Nat.le_refl _
theorem pV_lt (h : WF F) (S : Nat) : pV F S < 2 ^ 31 := by have := wv_le h (nw F (uL F) S); unfold pV; omega
theorem pN_lt (h : WF F) (j : Nat) : pN F t j < 2 ^ nE F := nw_lt _ _ _
theorem pQ_zero : pQ F t n 0 := by intro i hi; rw [nw_zero, Nat.zero_testBit] at hi; cases hi
theorem pQ_step {S d p : Nat} (hq : pQ F t n S) (hd : d < n) (hp : p < 5) : pQ F t n (S ||| pA F t d p) := by
  intro i hi
  rw [nw_or, Nat.testBit_or, Bool.or_eq_true] at hi
  rcases hi with hi | hi
  · exact hq i hi
  · rw [orr_tb]
    refine ⟨5 * d + p, by omega, ?_⟩
    rw [pN, show (5 * d + p) / 5 = d by omega, show (5 * d + p) % 5 = p by omega]
    exact hi
theorem pQ_val (h : WF F) {S : Nat} (hq : pQ F t n S) : nI (pV F S) ≤ nI (wv F (orr (pN F t) (5 * n))) := by
  have := wv_le h (orr (pN F t) (5 * n))
  exact nI_le (wv_mono hq) (by omega)
/-- what holds of the planner, d places chosen, b the best so far -/
def XI (F : ST_X1) (t n : Nat) (d : Nat) (tr : Nat → Nat) (b : BB) (P : ST_X3) : Prop :=
  (∀ j, j < 5 * n → P.1 j = nI (pN F t j)) ∧ P.2.2.2.2 = nI (wv F (orr (pN F t) (5 * n))) ∧ (∀ i, i < d → P.2.1 i = nI (tr i)) ∧ P.2.2.2.1 = b.2 ∧ (0 ≤ b.2 → ∀ i, i < n → P.2.2.1 i = nI (b.1 i))
def EX (F : ST_X1) (t n : Nat) (f : ST_X3 → ST_X1 → Int32 → Int32 → Int32 → Int32 → Option ST_X3) (d k : Nat) : Prop :=
  ∀ c S tr b P, c ≤ 20 → S < 2 ^ nE F → pQ F t n S → (∀ i, i < d → tr i < 5) → XI F t n d tr b P → ∃ P', f P F (nI n) (nI d) (nI c) (nI (nw F (uL F) S)) = some P' ∧ XI F t n d tr (dfs (pA F t) (pV F) k d c S tr b) P'
theorem x_leaf (h : WF F) {d c S : Nat} {tr : Nat → Nat} {b : BB} {P : ST_X3} (hn : n ≤ 5) (hd : d = n) (hI : XI F t n d tr b P) (f : ST_X3 → ST_X1 → Int32 → Int32 → Int32 → Int32 → Option ST_X3) : ∃ P', f_X3_extend_b14 F f P (nI (nw F (uL F) S)) = some P' ∧ XI F t n d tr (dfs (pA F t) (pV F) 0 d c S tr b) P' := by
  obtain ⟨i1, i2, i3, i4, i5⟩ := hI
  rw [f_X3_extend_b14, ob_eq (x_worth h (nw_lt _ _ _)), f_X3_keepIfBetter, i4, dfs, show wv F (nw F (uL F) S) = pV F S from rfl]
  by_cases g : b.2 < nI (pV F S)
  · rw [if_neg (Int32.not_le.mpr g), if_pos g]
    refine ⟨_, rfl, i1, i2, i3, rfl, fun _ i hi => ?_⟩
    show va_cpy P.2.1 P.2.2.1 0 0 5 i = _
    rw [pk_cpy_in (Nat.zero_le _) (by omega), show 0 + (i - 0) = i by omega]
    exact i3 i (by omega)
  · rw [if_pos (Int32.not_lt.mp g), if_neg g]
    exact ⟨P, rfl, i1, i2, i3, i4, i5⟩
theorem x_ext_loop (h : WF F) (hn : n ≤ 5) {f : ST_X3 → ST_X1 → Int32 → Int32 → Int32 → Int32 → Option ST_X3} {d k : Nat} (hk : d + 1 + k = n) (IH : EX F t n f (d + 1) k) : ∀ m fu p c S tr b P, p + m = 5 → m < fu → c ≤ 20 → S < 2 ^ nE F → pQ F t n S → (∀ i, i < d → tr i < 5) → XI F t n d tr b P → ∃ P', f_X3_extend_b28 F f fu P (nI n) (nI d) (nI c) (nI (nw F (uL F) S)) (nI p) = some P' ∧ XI F t n d tr (pl (fun p b => if co d tr p ≤ c then dfs (pA F t) (pV F) k (d + 1) (c - co d tr p) (S ||| pA F t d p) (st tr d p) b else b) m p b) P' := by
  have hw := wv_le h (orr (pN F t) (5 * n))
  intro m
  induction m with
  | zero =>
    intro fu p c S tr b P hp hm hc hS hq ht hI
    obtain ⟨fu, rfl⟩ : ∃ z, fu = z + 1 := ⟨fu - 1, by omega⟩
    rw [f_X3_extend_b28, zL5, if_pos ((nI_leI (by omega) (by omega)).mpr (by omega))]
    exact ⟨P, rfl, hI⟩
  | succ m ih =>
    intro fu p c S tr b P hp hm hc hS hq ht hI
    obtain ⟨fu, rfl⟩ : ∃ z, fu = z + 1 := ⟨fu - 1, by omega⟩
    have hI0 := hI
    obtain ⟨i1, i2, i3, i4, i5⟩ := hI
    rw [f_X3_extend_b28, zL5, if_neg (fun z => absurd ((nI_leI (by omega) (by omega)).mp z) (by omega)), i2, i4]
    by_cases g : nI (wv F (orr (pN F t) (5 * n))) ≤ b.2
    · rw [if_pos g, pl_stop (m + 1) p hp]
      · exact ⟨P, rfl, hI0⟩
      · intro p hp5
        split
        · exact dfs_stop (n := n) (pQ F t n) _ (fun S hS => pQ_val h hS) (fun S d p a b c => pQ_step a b c) _ _ _ _ _ b (by omega) (pQ_step hq (by omega) hp5) g
        · rfl
    · rw [if_neg g, pl]
      have go : ∃ P', f_X3_extend_b67 F f (f_X3_extend_b28 F f fu) P (nI n) (nI d) (nI c) (nI (nw F (uL F) S)) (nI p) (nI (co d tr p)) = some P' ∧ XI F t n d tr (pl (fun p b => if co d tr p ≤ c then dfs (pA F t) (pV F) k (d + 1) (c - co d tr p) (S ||| pA F t d p) (st tr d p) b else b) m (p + 1) (if co d tr p ≤ c then dfs (pA F t) (pV F) k (d + 1) (c - co d tr p) (S ||| pA F t d p) (st tr d p) b else b)) P' := by
        have hco : co d tr p ≤ 5 := by
          rw [co]; split
          · omega
          · have := ht (d - 1) (by omega); omega
        rw [f_X3_extend_b67]
        by_cases g2 : co d tr p ≤ c
        · have hidx : (pN F t (d * 5 + p)) = nw F (uL F) (pA F t d p) := by
            rw [pN, show (d * 5 + p) / 5 = d by omega, show (d * 5 + p) % 5 = p by omega]
          rw [if_neg (fun z => absurd ((nI_ltI (by omega) (by omega)).mp z) (by omega)), if_pos (zin (by omega) (by omega)), zL5, pk_mul, nI_add, if_pos (zin (by omega) (by omega)), zclamp (by omega), zclamp (by omega), i1 (d * 5 + p) (by omega), hidx, zor, ← nw_or, pk_sub g2, nI_1, if_pos g2]
          obtain ⟨P', e1, e2⟩ := IH (c - co d tr p) (S ||| pA F t d p) (st tr d p) b (P.1, upd P.2.1 d (nI p), P.2.2) (by omega) (Nat.or_lt_two_pow hS (pas_lt _ _ _)) (pQ_step hq (by omega) (by omega)) (fun i hi => by
            rw [st]; split
            · omega
            · exact ht i (by omega)) ⟨i1, i2, fun i hi => by
              rw [st]
              by_cases e : i = d
              · rw [if_pos e, e]; exact pk_us
              · rw [if_neg e]
                show upd P.2.1 d (nI p) i = _
                rw [pk_un e]; exact i3 i (by omega), i4, i5⟩
          rw [ob_eq e1, f_X3_extend_b112, nI_1]
          refine ih fu (p + 1) c S tr _ P' (by omega) (by omega) hc hS hq ht ⟨e2.1, e2.2.1, fun i hi => ?_, e2.2.2.2.1, e2.2.2.2.2⟩
          rw [e2.2.2.1 i (by omega), st, if_neg (by omega)]
        · rw [if_pos ((nI_ltI (by omega) (by omega)).mpr (by omega)), f_X3_extend_b112, nI_1, if_neg g2]
          exact ih fu (p + 1) c S tr b P (by omega) (by omega) hc hS hq ht hI0
      by_cases e : d = 0
      · rw [if_pos (by rw [e]; rfl)]
        rw [show co d tr p = 0 by rw [co, if_pos e]] at go
        rw [show co d tr p = 0 by rw [co, if_pos e]]
        exact go
      · rw [if_neg (nI_ne0 (by omega) (by omega)), zL1, pk_sub (by omega), if_pos (zin (by omega) (by omega)), zclamp (by omega), i3 (d - 1) (by omega), zamount (by omega) (ht (d - 1) (by omega))]
        rw [show (p - tr (d - 1)) + (tr (d - 1) - p) = co d tr p by rw [co, if_neg e]]
        exact go
theorem x_ext (h : WF F) (hn : n ≤ 5) : ∀ k d fu, d + k = n → k < fu → EX F t n (f_X3_extend fu) d k := by
  intro k
  induction k with
  | zero =>
    intro d fu hd hf c S tr b P hc hS hq ht hI
    obtain ⟨fu, rfl⟩ : ∃ z, fu = z + 1 := ⟨fu - 1, by omega⟩
    rw [f_X3_extend, if_pos ((nI_leI (by omega) (by omega)).mpr (by omega))]
    exact x_leaf h hn (by omega) hI _
  | succ k ih =>
    intro d fu hd hf c S tr b P hc hS hq ht hI
    obtain ⟨fu, rfl⟩ : ∃ z, fu = z + 1 := ⟨fu - 1, by omega⟩
    rw [f_X3_extend, if_neg (fun z => absurd ((nI_leI (by omega) (by omega)).mp z) (by omega)), zL5, if_neg (fun z => absurd ((nI_leI (by omega) (by omega)).mp z) (by omega)), if_pos (nI_pos' (by omega)), dfs]
    exact x_ext_loop h hn (by omega) (ih (d + 1) fu (by omega) (by omega)) 5 4096 0 c S tr b P rfl (by omega) hc hS hq ht hI
end P
