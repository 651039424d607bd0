/-! waiting, chasing, ever, pairs that go together, friends -/
/-- the first of k numbers from j with a property, or -9 -/
def fi (q : Nat → Bool) : Nat → Nat → Int32
  | 0, _ => -9
  | k + 1, j => if q j then nI j else fi q k (j + 1)
theorem x_await_loop {W : ST_X4} (h : WF W.1) {t e p : Nat} (ht : W.2.2 = nI t) (hb : t < 2 ^ 30) (he : e < nE W.1) (hp : p < 2 ^ 31) : ∀ (fu j : Nat), j ≤ 61 → 61 - j < fu → f_X4_daysUntil_b2 W fu (nI e) (nI p) (nI j) = some (fi (fun j => place W.1 e (t + j) == p) (61 - j) j) := by
  intro fu
  induction fu with
  | zero => intro j h1 h2; omega
  | succ fu ih =>
    intro j h1 h2
    rw [f_X4_daysUntil_b2, zL60]
    by_cases q : j = 61
    · rw [if_pos ((nI_ltI (by omega) (by omega)).mpr (by omega)), q]
      rfl
    · have hpl := place_le h (d := t + j) he
      have hk : 61 - j = (61 - (j + 1)) + 1 := by omega
      rw [if_neg (fun z => absurd ((nI_ltI (by omega) (by omega)).mp z) (by omega)), ht, nI_add, ob_eq (x_placeOn h he (by omega)), if_neg (fun z => zneg_ne zm1_lt hp z.symm), zif (zeq (by omega) hp), hk, fi]
      by_cases g : place W.1 e (t + j) = p
      · rw [if_pos g, if_pos (by simpa using g), f_X4_daysUntil_b45]
      · rw [if_neg g, if_neg (by simpa using g), f_X4_daysUntil_b47, nI_1]
        exact ih (j + 1) (by omega) (by omega)
theorem x_await {W : ST_X4} (h : WF W.1) {t e p : Nat} (ht : W.2.2 = nI t) (hb : t < 2 ^ 30) (he : e < nE W.1) (hp : p < 2 ^ 31) : f_X4_daysUntil W (nI e) (nI p) = some (fi (fun j => place W.1 e (t + j) == p) 61 0) := by
  rw [f_X4_daysUntil]
  exact x_await_loop h ht hb he hp 4096 0 (Nat.zero_le _) (by omega)
theorem x_chase_loop {W : ST_X4} (h : WF W.1) {t e : Nat} (ht : W.2.2 = nI t) (hb : t < 2 ^ 30) (he : e < nE W.1) : ∀ (fu j : Nat), j ≤ 61 → 61 - j < fu → f_X4_daysUntil_b2 W fu (nI e) (-1) (nI j) = some (fi (fun j => place W.1 e (t + j) != 9) (61 - j) j) := by
  intro fu
  induction fu with
  | zero => intro j h1 h2; omega
  | succ fu ih =>
    intro j h1 h2
    rw [f_X4_daysUntil_b2, zL60]
    by_cases q : j = 61
    · rw [if_pos ((nI_ltI (by omega) (by omega)).mpr (by omega)), q]
      rfl
    · have hpl := place_le h (d := t + j) he
      have hk : 61 - j = (61 - (j + 1)) + 1 := by omega
      rw [if_neg (fun z => absurd ((nI_ltI (by omega) (by omega)).mp z) (by omega)), ht, nI_add, ob_eq (x_placeOn h he (by omega)), if_pos rfl, zL9, zif (zeq (by omega) (by omega)), hk, fi]
      by_cases g : place W.1 e (t + j) = 9
      · rw [if_pos g, if_neg (by simpa using g), f_X4_daysUntil_b47, nI_1]
        exact ih (j + 1) (by omega) (by omega)
      · rw [if_neg g, if_pos (by simpa using g), f_X4_daysUntil_b45]
theorem x_chase {W : ST_X4} (h : WF W.1) {t e : Nat} (ht : W.2.2 = nI t) (hb : t < 2 ^ 30) (he : e < nE W.1) : f_X4_daysUntil W (nI e) (-1) = some (fi (fun j => place W.1 e (t + j) != 9) 61 0) := by
  rw [f_X4_daysUntil]
  exact x_chase_loop h ht hb he 4096 0 (Nat.zero_le _) (by omega)
theorem m_await_loop {F : ST_X1} {M : ST_X6} (hs : sF F M.2.1) (h : WF F) {t e p : Nat} (ht : M.2.1 1 = nI t) (hb : t < 2 ^ 30) (he : e < nE F) (hp : p < 2 ^ 31) : ∀ (fu j : Nat), j ≤ 61 → 61 - j < fu → f_X6_await_b23 fu M (nI e) (nI p) (nI j) = some (fi (fun j => place F e (t + j) == p) (61 - j) j, M) := by
  intro fu
  induction fu with
  | zero => intro j h1 h2; omega
  | succ fu ih =>
    intro j h1 h2
    rw [f_X6_await_b23, zL60]
    by_cases q : j = 61
    · rw [if_pos ((nI_ltI (by omega) (by omega)).mpr (by omega)), q]
      rfl
    · have hpl := place_le h (d := t + j) he
      have hk : 61 - j = (61 - (j + 1)) + 1 := by omega
      rw [if_neg (fun z => absurd ((nI_ltI (by omega) (by omega)).mp z) (by omega)), ht, nI_add, ob_eq (m_isAt hs h he (by omega)), zif (zeq (by omega) hp), hk, fi]
      by_cases g : place F e (t + j) = p
      · rw [if_pos g, if_pos (by simpa using g)]
      · rw [if_neg g, if_neg (by simpa using g), nI_1]
        exact ih (j + 1) (by omega) (by omega)
theorem m_await {F : ST_X1} {M : ST_X6} (hs : sF F M.2.1) (h : WF F) {t e p : Nat} (ht : M.2.1 1 = nI t) (hb : t < 2 ^ 30) (he : e < nE F) (hp : p < 2 ^ 31) : f_X6_await_b23 4096 M (nI e) (nI p) 0 = some (fi (fun j => place F e (t + j) == p) 61 0, M) :=
  m_await_loop hs h ht hb he hp 4096 0 (Nat.zero_le _) (by omega)
theorem m_chase_loop {F : ST_X1} {M : ST_X6} (hs : sF F M.2.1) (h : WF F) {t e : Nat} (ht : M.2.1 1 = nI t) (hb : t < 2 ^ 30) (he : e < nE F) : ∀ (fu j : Nat), j ≤ 61 → 61 - j < fu → f_X6_chase_b16 fu M (nI e) (nI j) = some (fi (fun j => place F e (t + j) != 9) (61 - j) j, M) := by
  intro fu
  induction fu with
  | zero => intro j h1 h2; omega
  | succ fu ih =>
    intro j h1 h2
    rw [f_X6_chase_b16, zL60]
    by_cases q : j = 61
    · rw [if_pos ((nI_ltI (by omega) (by omega)).mpr (by omega)), q]
      rfl
    · have hpl := place_le h (d := t + j) he
      have hk : 61 - j = (61 - (j + 1)) + 1 := by omega
      rw [if_neg (fun z => absurd ((nI_ltI (by omega) (by omega)).mp z) (by omega)), ht, nI_add, ob_eq (m_isAt hs h he (by omega)), zL9, zif (zeq (by omega) (by omega)), hk, fi]
      by_cases g : place F e (t + j) = 9
      · rw [if_pos g, if_neg (by simpa using g), nI_1]
        exact ih (j + 1) (by omega) (by omega)
      · rw [if_neg g, if_pos (by simpa using g)]
theorem m_chase {F : ST_X1} {M : ST_X6} (hs : sF F M.2.1) (h : WF F) {t e : Nat} (ht : M.2.1 1 = nI t) (hb : t < 2 ^ 30) (he : e < nE F) : f_X6_chase_b16 4096 M (nI e) 0 = some (fi (fun j => place F e (t + j) != 9) 61 0, M) :=
  m_chase_loop hs h ht hb he 4096 0 (Nat.zero_le _) (by omega)
/-- whether one of k numbers from j has a property -/
def an (q : Nat → Bool) : Nat → Nat → Bool
  | 0, _ => false
  | k + 1, j => q j || an q k (j + 1)
theorem fi_an (q : Nat → Bool) : ∀ k j, j + k < 2 ^ 31 → (fi q k j = -9 ↔ an q k j = false) := by
  intro k
  induction k with
  | zero => intro j _; simp [fi, an]
  | succ k ih =>
    intro j hj
    rw [fi, an]
    by_cases g : q j = true
    · rw [if_pos g, g]
      simp [zne9 (show j < 2 ^ 31 by omega)]
    · rw [if_neg g, ih (j + 1) (by omega)]
      simp [g]
/-- an engine is out on one of the next days -/
def ev (F : ST_X1) (t e : Nat) : Bool := an (fun j => place F e (t + j) != 9) 61 0
theorem x_ever_loop {W : ST_X4} (h : WF W.1) {t : Nat} (ht : W.2.2 = nI t) (hb : t < 2 ^ 30) : ∀ (fu i : Nat), i ≤ nE W.1 → nE W.1 - i < fu → f_X4_everWorth_b4 W fu (nI (bo (ev W.1 t) i)) (nI i) = some (nI (wv W.1 (nw W.1 (uL W.1) (bo (ev W.1 t) (nE W.1))))) := by
  have h7 := h.n7
  intro fu
  induction fu with
  | zero => intro i h1 h2; omega
  | succ fu ih =>
    intro i h1 h2
    rw [f_X4_everWorth_b4, h.size]
    by_cases q : i = nE W.1
    · have := bo_lt (ev W.1 t) (nE W.1)
      have := pow_le7 h7
      rw [if_pos ((nI_leI (by omega) (by omega)).mpr (by omega)), q, ob_eq (x_newOf h (by omega)), ob_eq (x_worth h (nw_lt _ _ _))]
    · have hi : i < nE W.1 := by omega
      have ih' := ih (i + 1) (by omega) (by omega)
      rw [bo] at ih'
      rw [if_neg (fun z => absurd ((nI_leI (by omega) (by omega)).mp z) (by omega)), ob_eq (x_chase h ht hb hi), zif (show _ ↔ ev W.1 t i = false from fi_an _ 61 0 (by omega))]
      by_cases g : ev W.1 t i = false
      · rw [if_pos g, f_X4_everWorth_b37, nI_1]
        rw [if_neg (by simp [g]), Nat.or_zero] at ih'
        exact ih'
      · rw [if_neg g, ob_eq (x_bit h hi), f_X4_everWorth_b37, zor, nI_1]
        rw [if_pos (by simpa using g)] at ih'
        exact ih'
theorem x_ever {W : ST_X4} (h : WF W.1) {t : Nat} (ht : W.2.2 = nI t) (hb : t < 2 ^ 30) : f_X4_everWorth W = some (nI (wv W.1 (nw W.1 (uL W.1) (bo (ev W.1 t) (nE W.1))))) := by
  have h7 := h.n7
  rw [f_X4_everWorth]
  exact x_ever_loop h ht hb 4096 0 (Nat.zero_le _) (by omega)
theorem m_ever_in {F : ST_X1} {M : ST_X6} (hs : sF F M.2.1) (h : WF F) {t e : Nat} (ht : M.2.1 1 = nI t) (hb : t < 2 ^ 30) (he : e < nE F) (k4 : Int32 → Int32 → Option Int32) : ∀ (fu j a : Nat), j ≤ 61 → 61 - j < fu → f_X6_ever_b16 M k4 fu (nI a) (nI e) (nI j) = k4 (nI (a ||| (if an (fun j => place F e (t + j) != 9) (61 - j) j then 2 ^ e else 0))) (nI (e + 1)) := by
  have h7 := h.n7
  intro fu
  induction fu with
  | zero => intro j a h1 h2; omega
  | succ fu ih =>
    intro j a h1 h2
    rw [f_X6_ever_b16, zL60]
    by_cases q : j = 61
    · rw [if_pos ((nI_ltI (by omega) (by omega)).mpr (by omega)), q, nI_1]
      simp [an]
    · have hpl := place_le h (d := t + j) he
      have hk : 61 - j = (61 - (j + 1)) + 1 := by omega
      rw [if_neg (fun z => absurd ((nI_ltI (by omega) (by omega)).mp z) (by omega)), ht, nI_add, ob_eq (m_isAt hs h he (by omega)), zL9, zif (zeq (by omega) (by omega)), hk, an]
      by_cases g : place F e (t + j) = 9
      · rw [if_pos g, f_X6_ever_b46, nI_1, ih (j + 1) a (by omega) (by omega), g]
        simp
      · rw [if_neg g, f_X6_ever_b46, nI_1, zshl (by omega), zor, ih (j + 1) _ (by omega) (by omega)]
        have : (place F e (t + j) != 9) = true := by simpa using g
        rw [this, Bool.true_or, if_pos rfl, Nat.or_assoc]
        congr 3
        split <;> simp
theorem m_ever_loop {F : ST_X1} {M : ST_X6} (hs : sF F M.2.1) (h : WF F) {t : Nat} (ht : M.2.1 1 = nI t) (hb : t < 2 ^ 30) : ∀ (fu i : Nat), i ≤ nE F → nE F - i < fu → f_X6_ever_b4 M fu (nI (bo (ev F t) i)) (nI i) = some (nI (wv F (nw F (uL F) (bo (ev F t) (nE F))))) := by
  have h7 := h.n7
  intro fu
  induction fu with
  | zero => intro i h1 h2; omega
  | succ fu ih =>
    intro i h1 h2
    rw [f_X6_ever_b4, hs.1, h.size]
    by_cases q : i = nE F
    · have := bo_lt (ev F t) (nE F)
      have := pow_le7 h7
      rw [if_pos ((nI_leI (by omega) (by omega)).mpr (by omega)), q, ob_eq (m_newOf hs h (by omega))]
    · have hi : i < nE F := by omega
      rw [if_neg (fun z => absurd ((nI_leI (by omega) (by omega)).mp z) (by omega)), zL0, m_ever_in hs h ht hb hi _ 4096 0 _ (by omega) (by omega)]
      exact ih (i + 1) (by omega) (by omega)
theorem m_ever {F : ST_X1} {M : ST_X6} (hs : sF F M.2.1) (h : WF F) {t : Nat} (ht : M.2.1 1 = nI t) (hb : t < 2 ^ 30) : f_X6_ever M = some (nI (wv F (nw F (uL F) (bo (ev F t) (nE F))))) := by
  have h7 := h.n7
  rw [f_X6_ever]
  exact m_ever_loop hs h ht hb 4096 0 (Nat.zero_le _) (by omega)
/-- two go together on k days from the j-th -/
def al (q : Nat → Bool) : Nat → Nat → Bool
  | 0, _ => true
  | k + 1, j => q j && al q k (j + 1)
def tg (F : ST_X1) (t n e f : Nat) : Bool := al (fun j => place F e (t + j) == place F f (t + j)) n 0
theorem x_go_loop {W : ST_X4} (h : WF W.1) {t n e f : Nat} (ht : W.2.2 = nI t) (hb : t + n < 2 ^ 31) (he : e < nE W.1) (hf : f < nE W.1) : ∀ (fu j : Nat), j ≤ n → n - j < fu → f_X4_goTogether_b3 W fu (nI e) (nI f) (nI n) (nI j) = some (if al (fun j => place W.1 e (t + j) == place W.1 f (t + j)) (n - j) j then 1 else 0) := by
  intro fu
  induction fu with
  | zero => intro j h1 h2; omega
  | succ fu ih =>
    intro j h1 h2
    rw [f_X4_goTogether_b3]
    by_cases q : j = n
    · rw [if_pos ((nI_leI (by omega) (by omega)).mpr (by omega)), q, Nat.sub_self, al]
      rfl
    · have a := place_le h (d := t + j) he
      have b := place_le h (d := t + j) hf
      have hk : n - j = (n - (j + 1)) + 1 := by omega
      rw [if_neg (fun z => absurd ((nI_leI (by omega) (by omega)).mp z) (by omega)), ht, nI_add, ob_eq (x_placeOn h he (by omega)), ob_eq (x_placeOn h hf (by omega)), zif (zeq (by omega) (by omega)), hk, al]
      by_cases g : place W.1 e (t + j) = place W.1 f (t + j)
      · rw [if_pos g, nI_1, ih (j + 1) (by omega) (by omega), g]
        simp
      · have : (place W.1 e (t + j) == place W.1 f (t + j)) = false := by simpa using g
        rw [if_neg g, this, Bool.false_and, if_neg (by decide)]
theorem x_go {W : ST_X4} (h : WF W.1) {t n e f : Nat} (ht : W.2.2 = nI t) (hb : t + n < 2 ^ 31) (hn : n < 4096) (he : e < nE W.1) (hf : f < nE W.1) : f_X4_goTogether W (nI e) (nI f) (nI n) = some (if tg W.1 t n e f then 1 else 0) := by
  rw [f_X4_goTogether]
  exact x_go_loop h ht hb he hf 4096 0 (Nat.zero_le _) (by omega)
theorem m_go_loop {F : ST_X1} {M : ST_X6} (hs : sF F M.2.1) (h : WF F) {t n e f : Nat} (ht : M.2.1 1 = nI t) (hb : t + n < 2 ^ 31) (he : e < nE F) (hf : f < nE F) : ∀ (fu j : Nat), j ≤ n → n - j < fu → f_X6_areTogether_b3 M fu (nI e) (nI f) (nI n) (nI j) = some (if al (fun j => place F e (t + j) == place F f (t + j)) (n - j) j then 1 else 0) := by
  intro fu
  induction fu with
  | zero => intro j h1 h2; omega
  | succ fu ih =>
    intro j h1 h2
    rw [f_X6_areTogether_b3]
    by_cases q : j = n
    · rw [if_pos ((nI_leI (by omega) (by omega)).mpr (by omega)), q, Nat.sub_self, al]
      rfl
    · have a := place_le h (d := t + j) he
      have b := place_le h (d := t + j) hf
      have hk : n - j = (n - (j + 1)) + 1 := by omega
      rw [if_neg (fun z => absurd ((nI_leI (by omega) (by omega)).mp z) (by omega)), ht, nI_add, ob_eq (m_isAt hs h he (by omega)), ob_eq (m_isAt hs h hf (by omega)), zif (zeq (by omega) (by omega)), hk, al]
      by_cases g : place F e (t + j) = place F f (t + j)
      · rw [if_pos g, nI_1, ih (j + 1) (by omega) (by omega), g]
        simp
      · have : (place F e (t + j) == place F f (t + j)) = false := by simpa using g
        rw [if_neg g, this, Bool.false_and, if_neg (by decide)]
theorem m_go {F : ST_X1} {M : ST_X6} (hs : sF F M.2.1) (h : WF F) {t n e f : Nat} (ht : M.2.1 1 = nI t) (hb : t + n < 2 ^ 31) (hn : n < 4096) (he : e < nE F) (hf : f < nE F) : f_X6_areTogether M (nI e) (nI f) (nI n) = some (if tg F t n e f then 1 else 0) := by
  rw [f_X6_areTogether]
  exact m_go_loop hs h ht hb he hf 4096 0 (Nat.zero_le _) (by omega)
/-- pairs (i, j), j one of k from the j-th: how many, and the first -/
def pc (q : Nat → Nat → Bool) (i : Nat) : Nat → Nat → Nat
  | 0, _ => 0
  | k + 1, j => (if q i j then 1 else 0) + pc q i k (j + 1)
def pf (q : Nat → Nat → Bool) (c i : Nat) : Nat → Nat → Int32
  | 0, _ => -9
  | k + 1, j => if q i j then nI (c * i + j) else pf q c i k (j + 1)
/-- over k rows from the i-th, each with the later of n -/
def qc (q : Nat → Nat → Bool) (n : Nat) : Nat → Nat → Nat
  | 0, _ => 0
  | k + 1, i => pc q i (n - (i + 1)) (i + 1) + qc q n k (i + 1)
def qf (q : Nat → Nat → Bool) (c n : Nat) : Nat → Nat → Int32
  | 0, _ => -9
  | k + 1, i => if pf q c i (n - (i + 1)) (i + 1) = -9 then qf q c n k (i + 1) else pf q c i (n - (i + 1)) (i + 1)
theorem x_pairs_in0 {S : ST_X5} (h : WF S.2.1.1) {t n i : Nat} (ht : S.2.1.2.2 = nI t) (hb : t + n < 2 ^ 31) (hn : n < 4096) (hi : i < nE S.2.1.1) (k : ST_X5 → Int32 → Int32 → Int32 → Int32 → Option (Int32 × ST_X5)) : ∀ (fu j c : Nat), j ≤ nE S.2.1.1 → nE S.2.1.1 - j < fu → f_X5_pairs_b67 k fu S (nI n) 0 (nI c) (nI i) (nI j) = k S (nI n) 0 (nI (c + pc (tg S.2.1.1 t n) i (nE S.2.1.1 - j) j)) (nI (i + 1)) := by
  have h7 := h.n7
  intro fu
  induction fu with
  | zero => intro j c h1 h2; omega
  | succ fu ih =>
    intro j c h1 h2
    rw [f_X5_pairs_b67, h.size]
    by_cases q : j = nE S.2.1.1
    · rw [if_pos ((nI_leI (by omega) (by omega)).mpr (by omega)), q, Nat.sub_self, pc, nI_1]
      rfl
    · have hk : nE S.2.1.1 - j = (nE S.2.1.1 - (j + 1)) + 1 := by omega
      rw [if_neg (fun z => absurd ((nI_leI (by omega) (by omega)).mp z) (by omega)), ob_eq (x_go h ht hb hn hi (by omega)), hk, pc]
      by_cases g : tg S.2.1.1 t n i j = true
      · rw [if_pos g, if_neg (by decide), if_neg (by decide), f_X5_pairs_b114, nI_1, nI_1, ih (j + 1) (c + 1) (by omega) (by omega), if_pos g, Nat.add_assoc]
      · rw [if_neg g, if_pos rfl, f_X5_pairs_b114, nI_1, ih (j + 1) c (by omega) (by omega), if_neg g, Nat.zero_add]
theorem x_pairs_out0 {S : ST_X5} (h : WF S.2.1.1) {t n : Nat} (ht : S.2.1.2.2 = nI t) (hb : t + n < 2 ^ 31) (hn : n < 4096) : ∀ (fu i c : Nat), i ≤ nE S.2.1.1 → nE S.2.1.1 - i < fu → f_X5_pairs_b46 fu S (nI n) 0 (nI c) (nI i) = some (nI (c + qc (tg S.2.1.1 t n) (nE S.2.1.1) (nE S.2.1.1 - i) i), S) := by
  have h7 := h.n7
  intro fu
  induction fu with
  | zero => intro j c h1 h2; omega
  | succ fu ih =>
    intro i c h1 h2
    rw [f_X5_pairs_b46, h.size]
    by_cases q : i = nE S.2.1.1
    · rw [if_pos ((nI_leI (by omega) (by omega)).mpr (by omega)), if_neg (by decide), q, Nat.sub_self, qc, Nat.add_zero]
    · have hk : nE S.2.1.1 - i = (nE S.2.1.1 - (i + 1)) + 1 := by omega
      rw [if_neg (fun z => absurd ((nI_leI (by omega) (by omega)).mp z) (by omega)), nI_1, x_pairs_in0 h ht hb hn (by omega) _ 4096 (i + 1) c (by omega) (by omega), ih (i + 1) _ (by omega) (by omega), hk, qc, Nat.add_assoc]
theorem x_pairs_in1 {S : ST_X5} (h : WF S.2.1.1) {t n i : Nat} (ht : S.2.1.2.2 = nI t) (hb : t + n < 2 ^ 31) (hn : n < 4096) (hi : i < nE S.2.1.1) (k : ST_X5 → Int32 → Int32 → Int32 → Int32 → Option (Int32 × ST_X5)) (c : Int32) : ∀ (fu j : Nat), j ≤ nE S.2.1.1 → nE S.2.1.1 - j < fu → f_X5_pairs_b67 k fu S (nI n) 1 c (nI i) (nI j) = if pf (tg S.2.1.1 t n) 10 i (nE S.2.1.1 - j) j = -9 then k S (nI n) 1 c (nI (i + 1)) else some (pf (tg S.2.1.1 t n) 10 i (nE S.2.1.1 - j) j, S) := by
  have h7 := h.n7
  intro fu
  induction fu with
  | zero => intro j h1 h2; omega
  | succ fu ih =>
    intro j h1 h2
    rw [f_X5_pairs_b67, h.size]
    by_cases q : j = nE S.2.1.1
    · rw [if_pos ((nI_leI (by omega) (by omega)).mpr (by omega)), q, Nat.sub_self, pf, nI_1, if_pos rfl]
    · have hk : nE S.2.1.1 - j = (nE S.2.1.1 - (j + 1)) + 1 := by omega
      rw [if_neg (fun z => absurd ((nI_leI (by omega) (by omega)).mp z) (by omega)), ob_eq (x_go h ht hb hn hi (by omega)), hk, pf]
      by_cases g : tg S.2.1.1 t n i j = true
      · rw [if_pos g, if_neg (by decide), if_pos rfl, if_pos g, if_neg (zne9 (by omega)), zL10, pk_mul, nI_add]
      · rw [if_neg g, if_pos rfl, f_X5_pairs_b114, nI_1, ih (j + 1) (by omega) (by omega), if_neg g]
theorem x_pairs_out1 {S : ST_X5} (h : WF S.2.1.1) {t n : Nat} (ht : S.2.1.2.2 = nI t) (hb : t + n < 2 ^ 31) (hn : n < 4096) (c : Int32) : ∀ (fu i : Nat), i ≤ nE S.2.1.1 → nE S.2.1.1 - i < fu → f_X5_pairs_b46 fu S (nI n) 1 c (nI i) = some (qf (tg S.2.1.1 t n) 10 (nE S.2.1.1) (nE S.2.1.1 - i) i, S) := by
  have h7 := h.n7
  intro fu
  induction fu with
  | zero => intro j h1 h2; omega
  | succ fu ih =>
    intro i h1 h2
    rw [f_X5_pairs_b46, h.size]
    by_cases q : i = nE S.2.1.1
    · rw [if_pos ((nI_leI (by omega) (by omega)).mpr (by omega)), if_pos rfl, q, Nat.sub_self, qf]
    · have hk : nE S.2.1.1 - i = (nE S.2.1.1 - (i + 1)) + 1 := by omega
      rw [if_neg (fun z => absurd ((nI_leI (by omega) (by omega)).mp z) (by omega)), nI_1, x_pairs_in1 h ht hb hn (by omega) _ c 4096 (i + 1) (by omega) (by omega), ih (i + 1) (by omega) (by omega), hk, qf]
      split <;> rfl
/-- the first that was found, or a later one -/
def od (v w : Int32) : Int32 := if v = -9 then w else v
theorem pf_nn (q : Nat → Nat → Bool) (c i : Nat) : ∀ k j, c * i + j + k < 2 ^ 31 → (pf q c i k j = -9 ∨ 0 ≤ pf q c i k j) := by
  intro k
  induction k with
  | zero => intro j _; exact Or.inl rfl
  | succ k ih =>
    intro j hj
    rw [pf]
    split
    · exact Or.inr (nI_pos' (by omega))
    · exact ih (j + 1) (by omega)
theorem m_pairs_in {F : ST_X1} {M : ST_X6} (hs : sF F M.2.1) (h : WF F) {t n i : Nat} (ht : M.2.1 1 = nI t) (hb : t + n < 2 ^ 31) (hn : n < 4096) (hi : i < nE F) (w : Int32) (k : ST_X6 → Int32 → Int32 → Int32 → Int32 → Int32 → Option (Int32 × ST_X6)) : ∀ (fu j c : Nat) (v : Int32), (v = -9 ∨ 0 ≤ v) → j ≤ nE F → nE F - j < fu → f_X6_pairs_b60 k fu M (nI n) w (nI c) v (nI i) (nI j) = k M (nI n) w (nI (c + pc (tg F t n) i (nE F - j) j)) (od v (pf (tg F t n) 10 i (nE F - j) j)) (nI (i + 1)) := by
  have h7 := h.n7
  intro fu
  induction fu with
  | zero => intro j c v hv h1 h2; omega
  | succ fu ih =>
    intro j c v hv h1 h2
    rw [f_X6_pairs_b60, hs.1, h.size]
    by_cases q : j = nE F
    · rw [if_pos ((nI_leI (by omega) (by omega)).mpr (by omega)), q, Nat.sub_self, pc, pf, nI_1, Nat.add_zero, od]
      congr 1
      split
      · assumption
      · rfl
    · have hk : nE F - j = (nE F - (j + 1)) + 1 := by omega
      rw [if_neg (fun z => absurd ((nI_leI (by omega) (by omega)).mp z) (by omega)), ob_eq (m_go hs h ht hb hn hi (by omega)), hk, pc, pf]
      by_cases g : tg F t n i j = true
      · rw [if_pos g, if_neg (by decide), if_pos g, if_pos g]
        rcases hv with hv | hv
        · rw [hv, if_neg (by decide), f_X6_pairs_b107, f_X6_pairs_b109, zL10, pk_mul, nI_add, nI_1, nI_1, ih (j + 1) (c + 1) _ (Or.inr (nI_pos' (by omega))) (by omega) (by omega), od, od, if_neg (zne9 (by omega)), if_pos rfl, Nat.add_assoc]
        · have nv : ¬ v = -9 := fun z => by rw [z] at hv; exact absurd hv (by decide)
          rw [if_pos hv, f_X6_pairs_b107, f_X6_pairs_b109, nI_1, nI_1, ih (j + 1) (c + 1) _ (Or.inr hv) (by omega) (by omega), od, od, if_neg nv, if_neg nv, Nat.add_assoc]
      · rw [if_neg g, if_pos rfl, f_X6_pairs_b109, nI_1, ih (j + 1) c v hv (by omega) (by omega), if_neg g, if_neg g, Nat.zero_add]
theorem od_nn {v w : Int32} (hv : v = -9 ∨ 0 ≤ v) (hw : w = -9 ∨ 0 ≤ w) : od v w = -9 ∨ 0 ≤ od v w := by
  rw [od]; split
  · exact hw
  · exact hv
theorem od_od (u v w : Int32) : od (od u v) w = od u (od v w) := by
  rw [od, od, od, od]
  by_cases a : u = -9
  · rw [if_pos a, if_pos a]
  · rw [if_neg a, if_neg a, if_neg a]
theorem m_pairs_out {F : ST_X1} {M : ST_X6} (hs : sF F M.2.1) (h : WF F) {t n : Nat} (ht : M.2.1 1 = nI t) (hb : t + n < 2 ^ 31) (hn : n < 4096) (w : Int32) : ∀ (fu i c : Nat) (v : Int32), (v = -9 ∨ 0 ≤ v) → i ≤ nE F → nE F - i < fu → f_X6_pairs_b43 fu M (nI n) w (nI c) v (nI i) = some (if w = 0 then nI (c + qc (tg F t n) (nE F) (nE F - i) i) else od v (qf (tg F t n) 10 (nE F) (nE F - i) i), M) := by
  have h7 := h.n7
  intro fu
  induction fu with
  | zero => intro j c v hv h1 h2; omega
  | succ fu ih =>
    intro i c v hv h1 h2
    rw [f_X6_pairs_b43, hs.1, h.size]
    by_cases q : i = nE F
    · rw [if_pos ((nI_leI (by omega) (by omega)).mpr (by omega)), q, Nat.sub_self, qc, qf, Nat.add_zero, od]
      by_cases g : w = 0
      · rw [if_pos g, if_pos g]
      · rw [if_neg g, if_neg g]
        congr 2
        split
        · assumption
        · rfl
    · have hk : nE F - i = (nE F - (i + 1)) + 1 := by omega
      rw [if_neg (fun z => absurd ((nI_leI (by omega) (by omega)).mp z) (by omega)), nI_1, m_pairs_in hs h ht hb hn (by omega) w _ 4096 (i + 1) c v hv (by omega) (by omega), ih (i + 1) _ _ (od_nn hv (pf_nn _ _ _ _ _ (by omega))) (by omega) (by omega), hk, qc, qf, Nat.add_assoc, od_od]
      rfl
