/-! several days: what is new at a place, where most is, days by seeds -/
def orr (f : Nat → Nat) : Nat → Nat
  | 0 => 0
  | n + 1 => orr f n ||| f n
theorem orr_lt {f : Nat → Nat} {k : Nat} {n : Nat} (h : ∀ i, i < n → f i < 2 ^ k) : orr f n < 2 ^ k := by
  induction n with
  | zero => exact Nat.two_pow_pos k
  | succ n ih => exact Nat.or_lt_two_pow (ih (fun i hi => h i (by omega))) (h n (by omega))
theorem had_or (F : ST_X1) (a b e : Nat) : had F (a ||| b) e = (had F a e || had F b e) := by
  rw [had, had, had, Nat.testBit_or, Nat.testBit_or]
  cases a.testBit e <;> cases b.testBit e <;> cases a.testBit (jo F e) <;> cases b.testBit (jo F e) <;> rfl
theorem had_zero (F : ST_X1) (e : Nat) : had F 0 e = false := by rw [had, Nat.zero_testBit, Nat.zero_testBit]; rfl
theorem nw_or (F : ST_X1) (L a b : Nat) : nw F L (a ||| b) = nw F L a ||| nw F L b := by
  apply Nat.eq_of_testBit_eq
  intro i
  rw [Nat.testBit_or, nw, nw, nw, bo_tb, bo_tb, bo_tb, had_or]
  cases decide (i < nE F) <;> cases decide (i ≤ jo F i) <;> cases had F a i <;> cases had F b i <;> cases had F L i <;> rfl
theorem nw_zero (F : ST_X1) (L : Nat) : nw F L 0 = 0 := by
  apply Nat.eq_of_testBit_eq
  intro i
  rw [nw, bo_tb, had_zero, Nat.zero_testBit]
  simp
theorem pas_lt7 {F : ST_X1} (h : WF F) (p d : Nat) : pas F p d < 128 := Nat.lt_of_lt_of_le (pas_lt F p d) (pow_le7 h.n7)
theorem nw_lt7 {F : ST_X1} (h : WF F) (L S : Nat) : nw F L S < 128 := Nat.lt_of_lt_of_le (nw_lt F L S) (pow_le7 h.n7)
theorem orr_pas_lt {F : ST_X1} (h : WF F) (g : Nat → Nat) (g2 : Nat → Nat) (n : Nat) : orr (fun j => pas F (g j) (g2 j)) n < 2 ^ nE F := orr_lt (fun i _ => pas_lt F _ _)
theorem x_newAt {W : ST_X4} (h : WF W.1) {p d : Nat} (hp : p < 2 ^ 31) (hd : d < 2 ^ 31) : f_X4_newAt W (nI p) (nI d) = some (nI (nw W.1 (uL W.1) (pas W.1 p d))) := by
  have := pas_lt7 h p d
  rw [f_X4_newAt, ob_eq (x_passing h hp hd), ob_eq (x_newOf h (by omega))]
/-- what is new in n days at a place -/
def fr (F : ST_X1) (t n p : Nat) : Nat := wv F (nw F (uL F) (orr (fun j => pas F p (t + j)) n))
theorem x_fresh_loop {W : ST_X4} (h : WF W.1) {t p n : Nat} (ht : W.2.2 = nI t) (hp : p < 2 ^ 31) (hn : t + n < 2 ^ 31) : ∀ (fu i : Nat), i ≤ n → n - i < fu → f_X4_freshWorth_b5 W fu (nI p) (nI n) (nI (nw W.1 (uL W.1) (orr (fun j => pas W.1 p (t + j)) i))) (nI i) = some (nI (fr W.1 t n p)) := by
  intro fu
  induction fu with
  | zero => intro i h1 h2; omega
  | succ fu ih =>
    intro i h1 h2
    rw [f_X4_freshWorth_b5]
    by_cases q : i = n
    · rw [if_pos ((nI_leI (by omega) (by omega)).mpr (by omega)), q, ob_eq (x_worth h (nw_lt _ _ _))]
      rfl
    · rw [if_neg (fun z => absurd ((nI_leI (by omega) (by omega)).mp z) (by omega)), ht, nI_add, ob_eq (x_newAt h hp (by omega)), zor, nI_1, ← nw_or]
      exact ih (i + 1) (by omega) (by omega)
theorem x_fresh {W : ST_X4} (h : WF W.1) {t p n : Nat} (ht : W.2.2 = nI t) (hp : p < 2 ^ 31) (hn : t + n < 2 ^ 31) (hn2 : n < 4096) : f_X4_freshWorth W (nI p) (nI n) = some (nI (fr W.1 t n p)) := by
  have := x_fresh_loop h ht hp hn 4096 0 (Nat.zero_le _) (by omega)
  rw [orr, nw_zero] at this
  rw [f_X4_freshWorth]
  exact this
theorem m_fresh_loop {F : ST_X1} {M : ST_X6} (hs : sF F M.2.1) (h : WF F) {t p n : Nat} (ht : M.2.1 1 = nI t) (hp : p < 2 ^ 31) (hn : t + n < 2 ^ 31) : ∀ (fu i : Nat), i ≤ n → n - i < fu → f_X6_freshOf_b5 M fu (nI p) (nI n) (nI (orr (fun j => pas F p (t + j)) i)) (nI i) = some (nI (fr F t n p)) := by
  intro fu
  induction fu with
  | zero => intro i h1 h2; omega
  | succ fu ih =>
    intro i h1 h2
    rw [f_X6_freshOf_b5]
    by_cases q : i = n
    · have := orr_pas_lt h (fun _ => p) (fun j => t + j) n
      have := pow_le7 h.n7
      rw [if_pos ((nI_leI (by omega) (by omega)).mpr (by omega)), q, ob_eq (m_newOf hs h (by omega))]
      rfl
    · rw [if_neg (fun z => absurd ((nI_leI (by omega) (by omega)).mp z) (by omega)), ht, nI_add, ob_eq (m_passes hs h hp (by omega)), zor, nI_1]
      exact ih (i + 1) (by omega) (by omega)
theorem m_fresh {F : ST_X1} {M : ST_X6} (hs : sF F M.2.1) (h : WF F) {t p n : Nat} (ht : M.2.1 1 = nI t) (hp : p < 2 ^ 31) (hn : t + n < 2 ^ 31) (hn2 : n < 4096) : f_X6_freshOf M (nI p) (nI n) = some (nI (fr F t n p)) := by
  rw [f_X6_freshOf]
  exact m_fresh_loop hs h ht hp hn 4096 0 (Nat.zero_le _) (by omega)
theorem fr_le {F : ST_X1} (h : WF F) (t n p : Nat) : fr F t n p ≤ 14 := wv_le h _
/-- the first of the greatest -/
def wh (g : Nat → Nat) : Nat → Nat
  | 0 => 0
  | i + 1 => if g i ≤ g (wh g i) then wh g i else i
theorem wh_le (g : Nat → Nat) (i : Nat) : wh g i ≤ i := by
  induction i with
  | zero => exact Nat.le_refl _
  | succ i ih => rw [wh]; split <;> omega
theorem x_where_loop {S : ST_X5} (h : WF S.2.1.1) {t n : Nat} (ht : S.2.1.2.2 = nI t) (hn : t + n < 2 ^ 31) (hn2 : n < 4096) : ∀ (fu i : Nat), i ≤ 5 → 5 - i < fu → f_X5_where_b32 fu S (nI n) (nI (wh (fr S.2.1.1 t n) i)) (nI (fr S.2.1.1 t n (wh (fr S.2.1.1 t n) i))) (nI i) = some (nI (wh (fr S.2.1.1 t n) 5), S) := by
  intro fu
  induction fu with
  | zero => intro i h1 h2; omega
  | succ fu ih =>
    intro i h1 h2
    rw [f_X5_where_b32, zL5]
    by_cases q : i = 5
    · rw [if_pos ((nI_leI (by omega) (by omega)).mpr (by omega)), q]
    · have a := fr_le h t n i
      have b := fr_le h t n (wh (fr S.2.1.1 t n) i)
      have ih' := ih (i + 1) (by omega) (by omega)
      rw [wh] at ih'
      rw [if_neg (fun z => absurd ((nI_leI (by omega) (by omega)).mp z) (by omega)), ob_eq (x_fresh h ht (by omega) hn hn2), zif (nI_leI (by omega) (by omega))]
      by_cases g : fr S.2.1.1 t n i ≤ fr S.2.1.1 t n (wh (fr S.2.1.1 t n) i)
      · rw [if_pos g, f_X5_where_b62, nI_1]
        rw [if_pos g] at ih'
        exact ih'
      · rw [if_neg g, f_X5_where_b62, nI_1]
        rw [if_neg g] at ih'
        exact ih'
theorem x_where {S : ST_X5} (h : WF S.2.1.1) {t n : Nat} (ht : S.2.1.2.2 = nI t) (hn : t + n < 2 ^ 31) (hn2 : n < 4096) : f_X5_where_b32 4096 S (nI n) 0 (-1) 0 = some (nI (wh (fr S.2.1.1 t n) 5), S) := by
  have a := fr_le h t n 0
  rw [f_X5_where_b32, if_neg (by decide), show (0 : Int32) = nI 0 from rfl, ob_eq (x_fresh h ht (by omega) hn hn2), if_neg (zneg_le' zm1_lt (by omega)), f_X5_where_b62, nI_1]
  have := x_where_loop h ht hn hn2 4095 1 (by omega) (by omega)
  rw [show wh (fr S.2.1.1 t n) 1 = 0 by rw [wh]; split <;> rfl] at this
  exact this
theorem m_where_loop {F : ST_X1} {M : ST_X6} (hs : sF F M.2.1) (h : WF F) {t n : Nat} (ht : M.2.1 1 = nI t) (hn : t + n < 2 ^ 31) (hn2 : n < 4096) : ∀ (fu i : Nat), i ≤ 5 → 5 - i < fu → f_X6_where_b23 fu M (nI n) (nI (wh (fr F t n) i)) (nI i) = some (nI (wh (fr F t n) 5), M) := by
  intro fu
  induction fu with
  | zero => intro i h1 h2; omega
  | succ fu ih =>
    intro i h1 h2
    rw [f_X6_where_b23, zL5]
    by_cases q : i = 5
    · rw [if_pos ((nI_leI (by omega) (by omega)).mpr (by omega)), q]
    · have a := fr_le h t n i
      have b := fr_le h t n (wh (fr F t n) i)
      have c := wh_le (fr F t n) i
      have ih' := ih (i + 1) (by omega) (by omega)
      rw [wh] at ih'
      rw [if_neg (fun z => absurd ((nI_leI (by omega) (by omega)).mp z) (by omega)), ob_eq (m_fresh hs h ht (by omega) hn hn2), ob_eq (m_fresh hs h ht (by omega) hn hn2), zif (nI_leI (by omega) (by omega))]
      by_cases g : fr F t n i ≤ fr F t n (wh (fr F t n) i)
      · rw [if_pos g, f_X6_where_b48, nI_1]
        rw [if_pos g] at ih'
        exact ih'
      · rw [if_neg g, f_X6_where_b48, nI_1]
        rw [if_neg g] at ih'
        exact ih'
theorem m_where {F : ST_X1} {M : ST_X6} (hs : sF F M.2.1) (h : WF F) {t n : Nat} (ht : M.2.1 1 = nI t) (hn : t + n < 2 ^ 31) (hn2 : n < 4096) : f_X6_where_b23 4096 M (nI n) 0 1 = some (nI (wh (fr F t n) 5), M) := by
  have := m_where_loop hs h ht hn hn2 4096 1 (by omega) (by omega)
  rw [show wh (fr F t n) 1 = 0 by rw [wh]; split <;> rfl] at this
  exact this
/-! a list that grows -/
def setU (F : ST_X1) (L : Nat) : ST_X1 := (F.1, F.2.1, F.2.2.1, F.2.2.2.1, F.2.2.2.2.1, F.2.2.2.2.2.1, F.2.2.2.2.2.2.1, nI L, F.2.2.2.2.2.2.2.2)
theorem setU_uL (F : ST_X1) {L : Nat} (hL : L < 2 ^ 31) : uL (setU F L) = L := zclamp hL
theorem setU_WF {F : ST_X1} (h : WF F) {L : Nat} (hL : L < 2 ^ nE F) : WF (setU F L) := by
  have := pow_le7 h.n7
  obtain ⟨h1, h2, h3, h4, h5, h6, h7, h8, h9⟩ := h
  refine ⟨h1, h2, h3, h4, h5, h6, h7, ?_, h9⟩
  rw [setU_uL F (by omega)]
  exact ⟨rfl, hL⟩
theorem setU_sF {F : ST_X1} {s : Nat → Int32} (hs : sF F s) (L : Nat) : sF (setU F L) (upd s 2 (nI L)) := by
  obtain ⟨h1, h2, h3, h4⟩ := hs
  refine ⟨by rw [pk_un (by omega)]; exact h1, by rw [pk_us]; rfl, by rw [pk_un (by omega)]; exact h3, fun e he => ?_⟩
  obtain ⟨g1, g2, g3, g4, g5⟩ := h4 e he
  refine ⟨by rw [pk_un (by omega)]; exact g1, by rw [pk_un (by omega)]; exact g2, by rw [pk_un (by omega)]; exact g3, by rw [pk_un (by omega)]; exact g4, fun d hd => by rw [pk_un (by omega)]; exact g5 d hd⟩
theorem m_stands {F : ST_X1} {M : ST_X6} (hs : sF F M.2.1) (h : WF F) {p d : Nat} (hp : p < 2 ^ 31) (hd : d < 2 ^ 31) : f_X6_stands M (nI p) (nI d) = some (nI (wv F (nw F (uL F) (pas F p d))), (M.1, upd M.2.1 2 (nI (uL F ||| pas F p d)), M.2.2)) := by
  have := pas_lt7 h p d
  rw [f_X6_stands, ob_eq (m_passes hs h hp hd), ob_eq (m_newOf hs h (by omega)), hs.2.1, h.2.2.2.2.2.2.2.1.1, zor]
theorem wv_split (F : ST_X1) (L P Q : Nat) : wv F (nw F L (P ||| Q)) = wv F (nw F L P) + wv F (nw F (L ||| P) Q) := by
  unfold wv
  rw [← sm_add]
  apply sm_cong
  intro i hi
  rw [nw, nw, nw, bo_tb, bo_tb, bo_tb, had_or, had_or]
  simp only [hi, decide_true, Bool.true_and]
  cases decide (i ≤ jo F i) <;> cases had F P i <;> cases had F Q i <;> cases had F L i <;> simp
theorem seed_place (x : Int32) : ∃ k, k < 5 ∧ ((x &&& 2147483647) / 256 - (x &&& 2147483647) / 256 / 5 * 5) = nI k := by
  have hn : ¬ (x &&& 2147483647) < 0 := by
    rw [Int32.lt_iff_toInt_lt]
    show ¬ (x.toBitVec &&& 2147483647#32).toInt < 0
    have : (x.toBitVec &&& 2147483647#32).msb = false := by rw [BitVec.msb_and, show (2147483647#32).msb = false by decide, Bool.and_false]
    rw [BitVec.msb_eq_toInt] at this
    simpa using this
  obtain ⟨j, hj, e⟩ := nI_of hn
  rw [e, show (256 : Int32) = nI 256 from rfl, zL5, pk_div hj (by omega) (by omega), pk_rem (by omega) (by omega) (by omega)]
  exact ⟨_, Nat.mod_lt _ (by omega), rfl⟩
theorem seeds_loop {W : ST_X4} {M : ST_X6} (hs : sF W.1 M.2.1) (h : WF W.1) {t n : Nat} (ht : W.2.2 = nI t) (hm : M.2.1 1 = nI t) (hn : t + n < 2 ^ 31) : ∀ (fu i : Nat) (x : Int32) (P : Nat), i ≤ n → n - i < fu → P < 2 ^ nE W.1 → ∃ v, f_X4_drawnWorth_b8 W fu (nI n) x (nI (nw W.1 (uL W.1) P)) (nI i) = some v ∧ f_X6_seeds_b35 fu (M.1, upd M.2.1 2 (nI (uL W.1 ||| P)), M.2.2) (nI n) (nI (uL W.1)) x (nI (wv W.1 (nw W.1 (uL W.1) P))) (nI i) = some (v, M) := by
  have h7 := pow_le7 h.n7
  have hu := h.2.2.2.2.2.2.2.1
  intro fu
  induction fu with
  | zero => intro i x P h1 h2; omega
  | succ fu ih =>
    intro i x P h1 h2 hP
    rw [f_X4_drawnWorth_b8, f_X6_seeds_b35]
    by_cases q : i = n
    · refine ⟨nI (wv W.1 (nw W.1 (uL W.1) P)), ?_, ?_⟩
      · rw [if_pos ((nI_leI (by omega) (by omega)).mpr (by omega)), ob_eq (x_worth h (nw_lt _ _ _))]
      · rw [if_pos ((nI_leI (by omega) (by omega)).mpr (by omega))]
        show some (_, (M.1, upd (upd M.2.1 2 (nI (uL W.1 ||| P))) 2 (nI (uL W.1)), M.2.2)) = _
        rw [ud_twice, ud_same (by rw [hs.2.1, hu.1])]
    · obtain ⟨k, hk, e⟩ := seed_place (x * 1664525 + 1013904223)
      have hLP : uL W.1 ||| P < 2 ^ nE W.1 := Nat.or_lt_two_pow hu.2 hP
      have hq : pas W.1 k (t + i) < 2 ^ nE W.1 := pas_lt W.1 k (t + i)
      rw [if_neg (fun z => absurd ((nI_leI (by omega) (by omega)).mp z) (by omega)), if_neg (fun z => absurd ((nI_leI (by omega) (by omega)).mp z) (by omega)), e, ht, nI_add, ob_eq (x_newAt h (by omega) (by omega)), zor, nI_1, ← nw_or]
      show ∃ v, _ ∧ (f_X6_stands _ _ (upd M.2.1 2 (nI (uL W.1 ||| P)) 1 + nI i)).bind _ = _
      rw [pk_un (by omega), hm, nI_add]
      have st := m_stands (F := setU W.1 (uL W.1 ||| P)) (M := (M.1, upd M.2.1 2 (nI (uL W.1 ||| P)), M.2.2)) (setU_sF hs _) (setU_WF h hLP) (p := k) (d := t + i) (by omega) (by omega)
      rw [setU_uL _ (by omega)] at st
      rw [ob_eq st]
      obtain ⟨v, v1, v2⟩ := ih (i + 1) (x * 1664525 + 1013904223) (P ||| pas W.1 k (t + i)) (by omega) (by omega) (Nat.or_lt_two_pow hP hq)
      refine ⟨v, v1, ?_⟩
      rw [wv_split, ← Nat.or_assoc] at v2
      rw [nI_add]
      show f_X6_seeds_b35 fu (M.1, upd (upd M.2.1 2 (nI (uL W.1 ||| P))) 2 (nI (uL W.1 ||| P ||| pas W.1 k (t + i))), M.2.2) _ _ _ _ _ = _
      rw [ud_twice]
      exact v2
theorem seeds_both {W : ST_X4} {M : ST_X6} (hs : sF W.1 M.2.1) (h : WF W.1) {t n : Nat} (ht : W.2.2 = nI t) (hm : M.2.1 1 = nI t) (hn : t + n < 2 ^ 31) (hn2 : n < 4096) (x : Int32) : ∃ v, f_X4_drawnWorth W (nI n) x = some v ∧ f_X6_seeds_b35 4096 M (nI n) (M.2.1 2) x 0 0 = some (v, M) := by
  have hu := h.2.2.2.2.2.2.2.1
  obtain ⟨v, v1, v2⟩ := seeds_loop hs h ht hm hn 4096 0 x 0 (Nat.zero_le _) (by omega) (Nat.two_pow_pos _)
  rw [nw_zero] at v1 v2
  refine ⟨v, v1, ?_⟩
  rw [Nat.or_zero, ud_same (by rw [hs.2.1, hu.1])] at v2
  rw [hs.2.1, hu.1]
  rw [show wv W.1 0 = 0 by
    unfold wv
    rw [sm_cong (g := fun _ => 0) (fun i _ => by rw [Nat.zero_testBit]; rfl)]
    have : ∀ n, sm (fun _ => 0) n = 0 := fun n => by induction n with
      | zero => rfl
      | succ n ih => rw [sm, ih]
    exact this _] at v2
  exact v2
