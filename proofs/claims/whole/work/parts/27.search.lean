/-! the class's search; the reference's plans -/
/-- the plan that is found -/
def pb (F : ST_X1) (t n c : Nat) : BB := dfs (pA F t) (pV F) n 0 c 0 (fun _ => 0) ((fun _ => 0), -1)
theorem pb_nn {F : ST_X1} (h : WF F) (t n c : Nat) : 0 ≤ (pb F t n c).2 := dfs_some (fun S => pV_lt h S) _ _ _ _ _ _ (fun i hi => absurd hi (by omega))
theorem x_search_loop {W : ST_X4} (h : WF W.1) {t n c : Nat} (ht : W.2.2 = nI t) (hb : t + 5 < 2 ^ 31) (hn : n ≤ 5) : ∀ fu i P, i ≤ 5 * n → 5 * n - i < fu → (∀ j, j < i → P.1 j = nI (pN W.1 t j)) → ∃ N, (∀ j, j < 5 * n → N j = nI (pN W.1 t j)) ∧ f_X3_search_b6 W fu P (nI n) (nI c) (nI (orr (pN W.1 t) i)) (nI i) = f_X3_search_b66 W (N, P.2) (nI n) (nI c) (nI (orr (pN W.1 t) (5 * n))) := by
  intro fu
  induction fu with
  | zero => intro i P h1 h2; omega
  | succ fu ih =>
    intro i P h1 h2 h3
    rw [f_X3_search_b6, zL5, pk_mul]
    by_cases q : i = 5 * n
    · rw [if_pos ((nI_leI (by omega) (by omega)).mpr (by omega)), q]
      rw [q] at h3
      exact ⟨P.1, h3, rfl⟩
    · rw [if_neg (fun z => absurd ((nI_leI (by omega) (by omega)).mp z) (by omega)), show (25 : Int32) = nI 25 from rfl, if_neg (fun z => absurd ((nI_leI (by omega) (by omega)).mp z) (by omega)), pk_rem (by omega) (by omega) (by omega), pk_div (by omega) (by omega) (by omega), ht, nI_add, ob_eq (x_newAt h (by omega) (by omega)), if_pos (zin (by omega) (by omega)), if_pos (zin (by omega) (by omega)), zclamp (by omega), pk_us, zor, nI_1]
      obtain ⟨N, n1, n2⟩ := ih (i + 1) (upd P.1 i (nI (pN W.1 t i)), P.2) (by omega) (by omega) (fun j hj => by
        by_cases e : j = i
        · rw [e]; exact pk_us
        · show upd P.1 i _ j = _
          rw [pk_un e]; exact h3 j (by omega))
      exact ⟨N, n1, n2⟩
theorem x_search {W : ST_X4} (h : WF W.1) {t n c : Nat} (ht : W.2.2 = nI t) (hb : t + 5 < 2 ^ 31) (hn : n ≤ 5) (hc : c ≤ 20) (P : ST_X3) : ∃ P', f_X3_search P W (nI n) (nI c) = some P' ∧ P'.2.2.2.1 = (pb W.1 t n c).2 ∧ ∀ i, i < n → P'.2.2.1 i = nI ((pb W.1 t n c).1 i) := by
  obtain ⟨N, n1, n2⟩ := x_search_loop h ht hb hn (c := c) 4096 0 P (Nat.zero_le _) (by omega) (fun j hj => absurd hj (by omega))
  have n3 : f_X3_search P W (nI n) (nI c) = f_X3_search_b66 W (N, P.2) (nI n) (nI c) (nI (orr (pN W.1 t) (5 * n))) := n2
  rw [n3, f_X3_search_b66, ob_eq (x_worth h (orr_lt (fun i _ => pN_lt h i)))]
  obtain ⟨P', e1, e2⟩ := x_ext h hn (t := t) n 0 8 (by omega) (by omega) c 0 (fun _ => 0) ((fun _ => 0), -1) (N, P.2.1, P.2.2.1, -1, nI (wv W.1 (orr (pN W.1 t) (5 * n)))) hc (Nat.two_pow_pos _) pQ_zero (fun i hi => absurd hi (by omega)) ⟨n1, rfl, fun i hi => absurd hi (by omega), rfl, fun z => absurd z (by decide)⟩
  rw [nw_zero] at e1
  refine ⟨P', ?_, e2.2.2.2.1, e2.2.2.2.2 (pb_nn h t n c)⟩
  show (f_X3_extend 8 (N, P.2.1, P.2.2.1, -1, nI (wv W.1 (orr (pN W.1 t) (5 * n)))) W.1 (nI n) (nI 0) (nI c) (nI 0)).bind _ = _
  rw [ob_eq e1]
def mP (M : ST_X6) (T B : Nat → Int32) (v : Int32) : ST_X6 := (M.1, M.2.1, M.2.2.1, M.2.2.2.1, M.2.2.2.2.1, M.2.2.2.2.2.1, M.2.2.2.2.2.2.1, M.2.2.2.2.2.2.2.1, M.2.2.2.2.2.2.2.2.1, T, B, v, M.2.2.2.2.2.2.2.2.2.2.2.2.1, M.2.2.2.2.2.2.2.2.2.2.2.2.2)
section P
variable {F : ST_X1} {M : ST_X6} {t n : Nat}
theorem m_copy_loop {f : ST_X6 → Int32 → Int32 → Int32 → Int32 → Option ST_X6} (hn : n ≤ 5) {T : Nat → Int32} {v : Int32} : ∀ fu i B, i ≤ n → n - i < fu → (∀ j, j < i → B j = T j) → ∃ B', f_X6_plans_b32 f fu (mP M T B v) (nI n) (nI i) = some (mP M T B' v) ∧ ∀ j, j < n → B' j = T j := by
  intro fu
  induction fu with
  | zero => intro i B h1 h2; omega
  | succ fu ih =>
    intro i B h1 h2 h3
    rw [f_X6_plans_b32]
    by_cases q : i = n
    · rw [if_pos ((nI_leI (by omega) (by omega)).mpr (by omega))]
      rw [q] at h3
      exact ⟨B, rfl, h3⟩
    · rw [if_neg (fun z => absurd ((nI_leI (by omega) (by omega)).mp z) (by omega)), if_pos (zin (by omega) (by omega)), if_pos (zin (by omega) (by omega)), zclamp (by omega), nI_1]
      exact ih (i + 1) (upd B i (T i)) (by omega) (by omega) (fun j hj => by
        by_cases e : j = i
        · rw [e]; exact pk_us
        · rw [pk_un e]; exact h3 j (by omega))
/-- what holds of the reference, d places chosen, b the best so far -/
def MI (M : ST_X6) (n : Nat) (d : Nat) (tr : Nat → Nat) (b : BB) (P : ST_X6) : Prop :=
  ∃ T B, P = mP M T B b.2 ∧ (∀ i, i < d → T i = nI (tr i)) ∧ (0 ≤ b.2 → ∀ i, i < n → B i = nI (b.1 i))
def EM (F : ST_X1) (M : ST_X6) (t n : Nat) (f : ST_X6 → Int32 → Int32 → Int32 → Int32 → Option ST_X6) (d k : Nat) : Prop :=
  ∀ c S tr b P, c ≤ 20 → S < 2 ^ nE F → (∀ i, i < d → tr i < 5) → MI M n d tr b P → ∃ P', f P (nI d) (nI n) (nI c) (nI S) = some P' ∧ MI M n d tr (dfs (pA F t) (pV F) k d c S tr b) P'
theorem m_plan_loop (hs : sF F M.2.1) (h : WF F) (hm : M.2.1 1 = nI t) (hb : t + 5 < 2 ^ 31) (hn : n ≤ 5) {f : ST_X6 → Int32 → Int32 → Int32 → Int32 → Option ST_X6} {d k : Nat} (hk : d + 1 + k = n) (IH : EM F M t n f (d + 1) k) : ∀ m fu p c S tr b P, p + m = 5 → m < fu → c ≤ 20 → S < 2 ^ nE F → (∀ i, i < d → tr i < 5) → MI M n d tr b P → ∃ P', f_X6_plans_b62 f fu P (nI d) (nI n) (nI c) (nI S) (nI p) = some P' ∧ MI M n d tr (pl (fun p b => if co d tr p ≤ c then dfs (pA F t) (pV F) k (d + 1) (c - co d tr p) (S ||| pA F t d p) (st tr d p) b else b) m p b) P' := by
  intro m
  induction m with
  | zero =>
    intro fu p c S tr b P hp hm2 hc hS ht hI
    obtain ⟨fu, rfl⟩ : ∃ z, fu = z + 1 := ⟨fu - 1, by omega⟩
    rw [f_X6_plans_b62, zL5, if_pos ((nI_leI (by omega) (by omega)).mpr (by omega))]
    exact ⟨P, rfl, hI⟩
  | succ m ih =>
    intro fu p c S tr b P hp hm2 hc hS ht hI
    obtain ⟨fu, rfl⟩ : ∃ z, fu = z + 1 := ⟨fu - 1, by omega⟩
    have hI0 := hI
    obtain ⟨T, B, rfl, i3, i5⟩ := hI
    rw [f_X6_plans_b62, zL5, if_neg (fun z => absurd ((nI_leI (by omega) (by omega)).mp z) (by omega)), pl]
    have go : ∃ P', f_X6_plans_b90 f (f_X6_plans_b62 f fu) (mP M T B b.2) (nI d) (nI n) (nI c) (nI S) (nI p) (nI (co d tr p)) = some P' ∧ MI M n d tr (pl (fun p b => if co d tr p ≤ c then dfs (pA F t) (pV F) k (d + 1) (c - co d tr p) (S ||| pA F t d p) (st tr d p) b else b) m (p + 1) (if co d tr p ≤ c then dfs (pA F t) (pV F) k (d + 1) (c - co d tr p) (S ||| pA F t d p) (st tr d p) b else b)) P' := by
      have hco : co d tr p ≤ 5 := by
        rw [co]; split
        · omega
        · have := ht (d - 1) (by omega); omega
      rw [f_X6_plans_b90]
      by_cases g2 : co d tr p ≤ c
      · rw [if_pos ((nI_leI (by omega) (by omega)).mpr g2), if_pos (zin (by omega) (by omega)), zclamp (by omega), if_pos g2]
        show ∃ P', (f_X6_passes (mP M (upd T d (nI p)) B b.2) (nI p) (M.2.1 1 + nI d)).bind (fun r6 => (f (mP M (upd T d (nI p)) B b.2) (nI d + 1) (nI n) (nI c - nI (co d tr p)) (nI S ||| r6)).bind fun r7 => f_X6_plans_b138 f (f_X6_plans_b62 f fu) r7 (nI d) (nI n) (nI c) (nI S) (nI p)) = some P' ∧ _
        rw [hm, nI_add, ob_eq (m_passes (M := mP M (upd T d (nI p)) B b.2) hs h (by omega) (by omega)), zor, pk_sub g2, nI_1]
        obtain ⟨P', e1, e2⟩ := IH (c - co d tr p) (S ||| pA F t d p) (st tr d p) b (mP M (upd T d (nI p)) B b.2) (by omega) (Nat.or_lt_two_pow hS (pas_lt _ _ _)) (fun i hi => by
          rw [st]; split
          · omega
          · exact ht i (by omega)) ⟨_, _, rfl, fun i hi => by
            rw [st]
            by_cases e : i = d
            · rw [if_pos e, e]; exact pk_us
            · rw [if_neg e, pk_un e]; exact i3 i (by omega), i5⟩
        rw [show pas F p (t + d) = pA F t d p from rfl, ob_eq e1, f_X6_plans_b138, nI_1]
        obtain ⟨T', B', e3, e4, e5⟩ := e2
        refine ih fu (p + 1) c S tr _ P' (by omega) (by omega) hc hS ht ⟨T', B', e3, fun i hi => ?_, e5⟩
        rw [e4 i (by omega), st, if_neg (by omega)]
      · rw [if_neg (fun z => g2 ((nI_leI (by omega) (by omega)).mp z)), f_X6_plans_b138, nI_1, if_neg g2]
        exact ih fu (p + 1) c S tr b _ (by omega) (by omega) hc hS ht hI0
    by_cases e : d = 0
    · rw [if_pos (by rw [e]; rfl)]
      rw [show co d tr p = 0 by rw [co, if_pos e]] at go
      rw [show co d tr p = 0 by rw [co, if_pos e]]
      exact go
    · rw [if_neg (nI_ne0 (by omega) (by omega)), zL1, pk_sub (by omega), if_pos (zin (by omega) (by omega)), zclamp (by omega)]
      show ∃ P', (f_X6_amount (nI p - T (d - 1))).bind _ = some P' ∧ _
      rw [i3 (d - 1) (by omega), ob_eq (mamount (by omega) (ht (d - 1) (by omega)))]
      rw [show (p - tr (d - 1)) + (tr (d - 1) - p) = co d tr p by rw [co, if_neg e]]
      exact go
theorem m_plans (hs : sF F M.2.1) (h : WF F) (hm : M.2.1 1 = nI t) (hb : t + 5 < 2 ^ 31) (hn : n ≤ 5) : ∀ k d fu, d + k = n → k < fu → EM F M t n (f_X6_plans fu) d k := by
  intro k
  induction k with
  | zero =>
    intro d fu hd hf c S tr b P hc hS ht hI
    obtain ⟨fu, rfl⟩ : ∃ z, fu = z + 1 := ⟨fu - 1, by omega⟩
    obtain ⟨T, B, rfl, i3, i5⟩ := hI
    have hp := pow_le7 h.n7
    rw [f_X6_plans, if_pos (by rw [show d = n by omega]), ob_eq (m_newOf (M := mP M T B b.2) hs h (by omega)), dfs, show wv F (nw F (uL F) S) = pV F S from rfl]
    show ∃ P', (if b.2 < nI (pV F S) then f_X6_plans_b32 (f_X6_plans fu) 4096 (mP M T B (nI (pV F S))) (nI n) 0 else some (mP M T B b.2)) = some P' ∧ _
    by_cases g : b.2 < nI (pV F S)
    · rw [if_pos g, if_pos g]
      obtain ⟨B', e1, e2⟩ := m_copy_loop (M := M) (f := f_X6_plans fu) (n := n) hn (T := T) (v := nI (pV F S)) 4096 0 B (Nat.zero_le _) (by omega) (fun j hj => absurd hj (by omega))
      exact ⟨_, e1, T, B', rfl, i3, fun _ i hi => by rw [e2 i hi]; exact i3 i (by omega)⟩
    · rw [if_neg g, if_neg g]
      exact ⟨_, rfl, T, B, rfl, i3, i5⟩
  | succ k ih =>
    intro d fu hd hf c S tr b P hc hS ht hI
    obtain ⟨fu, rfl⟩ : ∃ z, fu = z + 1 := ⟨fu - 1, by omega⟩
    rw [f_X6_plans, if_neg (fun z => absurd ((zeq (by omega) (by omega)).mp z) (by omega)), dfs]
    exact m_plan_loop hs h hm hb hn (by omega) (ih (d + 1) fu (by omega) (by omega)) 5 4096 0 c S tr b P rfl (by omega) hc hS ht hI
theorem m_finds (hs : sF F M.2.1) (h : WF F) (hm : M.2.1 1 = nI t) (hb : t + 5 < 2 ^ 31) (hn : n ≤ 5) {c : Nat} (hc : c ≤ 20) : ∃ T B, f_X6_findsPlan M (nI n) (nI c) = some (mP M T B (pb F t n c).2) ∧ ∀ i, i < n → B i = nI ((pb F t n c).1 i) := by
  obtain ⟨P', e1, T, B, e2, -, e4⟩ := m_plans hs h hm hb hn n 0 8 (by omega) (by omega) c 0 (fun _ => 0) ((fun _ => 0), -1) (mP M M.2.2.2.2.2.2.2.2.2.1 M.2.2.2.2.2.2.2.2.2.2.1 (-1)) hc (Nat.two_pow_pos _) (fun i hi => absurd hi (by omega)) ⟨_, _, rfl, fun i hi => absurd hi (by omega), fun z => absurd z (by decide)⟩
  refine ⟨T, B, ?_, e4 (pb_nn h t n c)⟩
  rw [f_X6_findsPlan]
  show (f_X6_plans 8 (mP M M.2.2.2.2.2.2.2.2.2.1 M.2.2.2.2.2.2.2.2.2.2.1 (-1)) (nI 0) (nI n) (nI c) (nI 0)).bind _ = _
  rw [ob_eq e1, e2]
  rfl
end P
