/-! an engine comes to be -/
def okt (t : Nat) : Bool := decide (t < 5) || t == 9
theorem okt_ok {t : Nat} (h : okt t = true) : okT t := by
  rw [okt, Bool.or_eq_true] at h
  rcases h with h | h
  · have : t < 5 := by simpa using h
    exact Or.inl (by omega)
  · exact Or.inr (by simpa using h)
def tu (g : Nat → Nat) (i d : Nat) : Nat := g (i + 5 + d) - 48
def Ft (F : ST_X1) (T : Nat → Int32) : ST_X1 := (F.1, F.2.1, F.2.2.1, F.2.2.2.1, T, F.2.2.2.2.2)
def newF (F : ST_X1) (T : Nat → Int32) (b k f : Nat) : ST_X1 :=
  (upd F.1 (nE F) (nI b), upd F.2.1 (nE F) (nI k), upd F.2.2.1 (nE F) (nI f), upd F.2.2.2.1 (nE F) (-9), T, nI (nE F + 1), nI (bo (fun e => kd F e == 6) (nE F) ||| (if k = 6 then 2 ^ nE F else 0)), F.2.2.2.2.2.2.2)
section E
variable {F : ST_X1} {Z : ST_X2} {M : ST_X6} {r V : Nat → Int32}
theorem al_split (q : Nat → Bool) : ∀ k j, al q k j = true → ∀ d, d < k → q (j + d) = true := by
  intro k
  induction k with
  | zero => intro j _ d hd; omega
  | succ k ih =>
    intro j h d hd
    rw [al, Bool.and_eq_true] at h
    by_cases e : d = 0
    · rw [e]; exact h.1
    · have := ih (j + 1) h.2 (d - 1) (by omega)
      rw [show j + 1 + (d - 1) = j + d by omega] at this
      exact this
theorem x_eng_loop (h : WF F) (hn : nE F < 7) (hL : WL Z) {i b : Nat} (hi : i < 2 ^ 16) (hk : ks (lt Z (i + 3)) < 7) (of : okc 0 (lt Z (i + 4)) = true) (ot : ∀ d, d < 7 → okc 0 (lt Z (i + 5 + d)) = true) : ∀ fu d T, d ≤ 7 → 7 - d < fu → (∀ j, j < 7 * nE F → T j = F.2.2.2.2.1 j) → (∀ k, k < d → T (7 * nE F + k) = nI (tu (lt Z) i k)) → ∃ F', f_X1_takesEngine_b34 Z fu (Ft F T) (nI i) (nI b) (nI d) = some (if al (fun d => okt (tu (lt Z) i d)) (7 - d) d = true then 1 else 0, F') ∧ (al (fun d => okt (tu (lt Z) i d)) (7 - d) d = true → ∃ T', F' = newF F T' b (ks (lt Z (i + 3))) (lt Z (i + 4) - 48) ∧ (∀ j, j < 7 * nE F → T' j = F.2.2.2.2.1 j) ∧ ∀ k, k < 7 → T' (7 * nE F + k) = nI (tu (lt Z) i k)) := by
  have sz : (Ft F (fun _ => 0)).2.2.2.2.2.1 = nI (nE F) := h.size
  intro fu
  induction fu with
  | zero => intro d T h1 h2; omega
  | succ fu ih =>
    intro d T h1 h2 h3 h4
    have szT : (Ft F T).2.2.2.2.2.1 = nI (nE F) := h.size
    rw [f_X1_takesEngine_b34, szT]
    by_cases q : d = 7
    · have c6 : (nI (ks (lt Z (i + 3))) = (6 : Int32)) ↔ ks (lt Z (i + 3)) = 6 := zeq (b := 6) (by omega) (by omega)
      have e1 : inB (nI (nE F)) 7 := zin (by omega) (by omega)
      have e2 : (nI (nE F)).toNatClampNeg = nE F := zclamp (by omega)
      have nam : F.2.2.2.2.2.2.1 = nI (bo (fun e => kd F e == 6) (nE F)) := h.2.2.2.2.2.2.1
      rw [zL7, if_pos ((nI_leI (by omega) (by omega)).mpr (by omega)), if_pos e1, zL3, nI_add, ob_eq (x_kind hL (by omega)), if_pos hk, if_pos e1, zL4, nI_add, ob_eq (x_dig hL (by omega) of), if_pos e1, if_pos e1, if_pos e1]
      simp only [e2, pk_us]
      rw [zif c6, q, Nat.sub_self, al]
      rw [q] at h4
      by_cases g : ks (lt Z (i + 3)) = 6
      · rw [if_pos g, f_X1_takesEngine_b175]
        refine ⟨_, rfl, fun _ => ⟨T, ?_, h3, h4⟩⟩
        show (upd F.1 (nE F) (nI b), upd F.2.1 (nE F) (nI (ks (lt Z (i + 3)))), upd F.2.2.1 (nE F) (nI (lt Z (i + 4) - 48)), upd F.2.2.2.1 (nE F) (-9), T, nI (nE F) + 1, F.2.2.2.2.2.2.1 ||| (1 <<< (nI (nE F) &&& 31)), F.2.2.2.2.2.2.2) = _
        rw [nam, zshl (by omega), zor, nI_1, newF, if_pos g]
      · rw [if_neg g, f_X1_takesEngine_b175]
        refine ⟨_, rfl, fun _ => ⟨T, ?_, h3, h4⟩⟩
        show (upd F.1 (nE F) (nI b), upd F.2.1 (nE F) (nI (ks (lt Z (i + 3)))), upd F.2.2.1 (nE F) (nI (lt Z (i + 4) - 48)), upd F.2.2.2.1 (nE F) (-9), T, nI (nE F) + 1, F.2.2.2.2.2.2.1, F.2.2.2.2.2.2.2) = _
        rw [nam, nI_1, newF, if_neg g, Nat.or_zero]
    · have o := ot d (by omega)
      have oo := okc0 o
      have hk7 : 7 - d = (7 - (d + 1)) + 1 := by omega
      have yes : okt (tu (lt Z) i d) = true → ∃ F', f_X1_takesEngine_b70 Z (f_X1_takesEngine_b34 Z fu) (Ft F T) (nI i) (nI b) (nI d) (nI (tu (lt Z) i d)) = some (if (okt (tu (lt Z) i d) && al (fun d => okt (tu (lt Z) i d)) (7 - (d + 1)) (d + 1)) = true then 1 else 0, F') ∧ ((okt (tu (lt Z) i d) && al (fun d => okt (tu (lt Z) i d)) (7 - (d + 1)) (d + 1)) = true → ∃ T', F' = newF F T' b (ks (lt Z (i + 3))) (lt Z (i + 4) - 48) ∧ (∀ j, j < 7 * nE F → T' j = F.2.2.2.2.1 j) ∧ ∀ k, k < 7 → T' (7 * nE F + k) = nI (tu (lt Z) i k)) := by
        intro g
        rw [g, Bool.true_and, f_X1_takesEngine_b70, szT, zL7, pk_mul, nI_add, if_pos (zin (by omega) (by omega)), zclamp (by omega), nI_1, ← h.size]
        exact ih (d + 1) (upd T (nE F * 7 + d) (nI (tu (lt Z) i d))) (by omega) (by omega) (fun j hj => by rw [pk_un (by omega)]; exact h3 j hj) (fun k hk => by
          by_cases e : k = d
          · rw [e, show 7 * nE F + d = nE F * 7 + d by omega]; exact pk_us
          · rw [pk_un (by omega)]; exact h4 k (by omega))
      rw [zL7, if_neg (fun z => absurd ((nI_leI (by omega) (by omega)).mp z) (by omega)), zL5, nI_add, nI_add, ob_eq (x_dig hL (by omega) o), show lt Z (i + 5 + d) - 48 = tu (lt Z) i d from rfl, hk7, al]
      have t9 : tu (lt Z) i d ≤ 9 := by unfold tu; omega
      have pl : f_X5_isPlace (nI (tu (lt Z) i d)) = some (if tu (lt Z) i d < 5 then 1 else 0) := by
        have : ∀ t, t ≤ 9 → f_X5_isPlace (nI t) = some (if t < 5 then 1 else 0) := by decide
        exact this _ t9
      rw [ob_eq pl]
      by_cases g : tu (lt Z) i d < 5
      · rw [if_pos g, if_neg (by decide)]
        exact yes (by rw [okt]; simp [g])
      · rw [if_neg g, if_pos rfl, zL9, zif (zeq (by omega) (by omega))]
        by_cases g2 : tu (lt Z) i d = 9
        · rw [if_pos g2]
          exact yes (by rw [okt]; simp [g2])
        · have no : okt (tu (lt Z) i d) = false := by rw [okt]; simp [g, g2]
          rw [if_neg g2, no, Bool.false_and]
          exact ⟨_, rfl, fun z => absurd z Bool.false_ne_true⟩
theorem m_chk {P : ST_X6} {t : Nat → Nat} (tv : ∀ d, d < 7 → P.2.2.2.2.2.2.1 (3 + d) = nI (t d)) (t9 : ∀ d, d < 7 → t d ≤ 9) : ∀ fu d, d ≤ 7 → 7 - d < fu → f_X6_comes_b45 fu P (nI (3 + d)) = if al (fun d => okt (t d)) (7 - d) d = true then f_X6_comes_b45 1 P (nI 10) else some (0, P) := by
  intro fu
  induction fu with
  | zero => intro d h1 h2; omega
  | succ fu ih =>
    intro d h1 h2
    by_cases q : d = 7
    · rw [q, Nat.sub_self, al, if_pos rfl, f_X6_comes_b45, f_X6_comes_b45, if_pos (show (10 : Int32) ≤ nI (3 + 7) by decide), if_pos (show (10 : Int32) ≤ nI 10 by decide)]
    · have hk7 : 7 - d = (7 - (d + 1)) + 1 := by omega
      have t9d := t9 d (by omega)
      have step := ih (d + 1) (by omega) (by omega)
      rw [f_X6_comes_b45, zL10, if_neg (fun z => absurd ((nI_leI (by omega) (by omega)).mp z) (by omega)), if_pos (zin (by omega) (by omega)), if_pos (zin (by omega) (by omega)), zclamp (by omega), tv d (by omega), zL5, zL9, zif (nI_ltI (by omega) (by omega)), zif (zeq (by omega) (by omega)), f_X6_comes_b74, nI_1, show 3 + d + 1 = 3 + (d + 1) by omega, step, hk7, al]
      by_cases g : t d < 5
      · rw [if_pos g, show okt (t d) = true by rw [okt]; simp [g], Bool.true_and]
      · rw [if_neg g]
        by_cases g2 : t d = 9
        · rw [if_pos g2, show okt (t d) = true by rw [okt]; simp [g2], Bool.true_and]
        · have no : okt (t d) = false := by rw [okt]; simp [g, g2]
          rw [if_neg g2, no, Bool.false_and, if_neg Bool.false_ne_true]
theorem m_write (M : ST_X6) (V : Nat → Int32) (t : Int32) {v : Nat} (hv : v + 11 ≤ 82) (hv0 : 0 < v) : ∀ fu d R, d ≤ 7 → 7 - d < fu → ∃ r', f_X6_comes_b144 fu (mK M R V t) (nI v) (nI d) = some (1, mK M r' V t) ∧ r' 0 = R 0 + 1 ∧ ∀ j, j ≠ 0 → r' j = if v + 4 + d ≤ j ∧ j < v + 4 + 7 then V (3 + (j - (v + 4))) else R j := by
  intro fu
  induction fu with
  | zero => intro d R h1 h2; omega
  | succ fu ih =>
    intro d R h1 h2
    rw [f_X6_comes_b144, zL7]
    by_cases q : d = 7
    · rw [if_pos ((nI_leI (by omega) (by omega)).mpr (by omega))]
      refine ⟨upd R 0 (R 0 + 1), rfl, pk_us, fun j hj => ?_⟩
      rw [pk_un hj, if_neg (by omega)]
    · rw [if_neg (fun z => absurd ((nI_leI (by omega) (by omega)).mp z) (by omega)), zL3, zL4, nI_add, nI_add, nI_add, if_pos (zin (by omega) (by omega)), if_pos (zin (by omega) (by omega)), zclamp (by omega), zclamp (by omega), nI_1]
      obtain ⟨r', a, b, c⟩ := ih (d + 1) (upd R (v + 4 + d) (V (3 + d))) (by omega) (by omega)
      refine ⟨r', a, by rw [b, pk_un (by omega)], fun j hj => ?_⟩
      rw [c j hj]
      by_cases e : j = v + 4 + d
      · rw [if_neg (by omega), if_pos (by omega), e, pk_us, show v + 4 + d - (v + 4) = d by omega]
      · rw [pk_un e]
        by_cases g : v + 4 + (d + 1) ≤ j ∧ j < v + 4 + 7
        · rw [if_pos g, if_pos (by omega)]
        · rw [if_neg g, if_neg (by omega)]
theorem newF_WF (h : WF F) (hn : nE F < 7) {T : Nat → Int32} {b k f : Nat} {tt : Nat → Nat} (hb : 10 ≤ b ∧ b ≤ 99) (hk : k ≤ 6) (hf : f ≤ 9) (h3 : ∀ j, j < 7 * nE F → T j = F.2.2.2.2.1 j) (h4 : ∀ d, d < 7 → T (7 * nE F + d) = nI (tt d)) (h5 : ∀ d, d < 7 → okT (tt d)) : WF (newF F T b k f) := by
  have hjo : ∀ e, e < nE F → _ := fun e he => jo_facts h he
  obtain ⟨h1, g2, g3, g4, g5, g6, g7, g8, g9⟩ := h
  have n' : nE (newF F T b k f) = nE F + 1 := zclamp (by omega)
  have old : ∀ {G : Nat → Int32} {x : Int32} {e : Nat}, e < nE F → upd G (nE F) x e = G e := fun he => pk_un (by omega)
  have Jo : ∀ e, jo (newF F T b k f) e = if e = nE F then nE F else jo F e := by
    intro e
    show (if upd F.2.2.2.1 (nE F) (-9) e = -9 then e else (upd F.2.2.2.1 (nE F) (-9) e).toNatClampNeg) = _
    by_cases q : e = nE F
    · rw [if_pos q, if_pos (by rw [q, pk_us]), q]
    · rw [if_neg q, pk_un q]; rfl
  have Kd : ∀ e, e < nE F → kd (newF F T b k f) e = kd F e := fun e he => by
    show (upd F.2.1 (nE F) (nI k) e).toNatClampNeg = _
    rw [old he]; rfl
  have KdN : kd (newF F T b k f) (nE F) = k := by
    show (upd F.2.1 (nE F) (nI k) (nE F)).toNatClampNeg = _
    rw [pk_us, zclamp (by omega)]
  unfold WF
  rw [n']
  refine ⟨⟨rfl, by omega⟩, fun e he => ?_, fun e he => ?_, fun e he => ?_, fun e he => ?_, fun e he d hd => ?_, ?_, ?_, ?_⟩
  · show upd F.1 (nE F) (nI b) e = nI (upd F.1 (nE F) (nI b) e).toNatClampNeg ∧ 10 ≤ (upd F.1 (nE F) (nI b) e).toNatClampNeg ∧ (upd F.1 (nE F) (nI b) e).toNatClampNeg ≤ 99
    by_cases q : e = nE F
    · rw [q, pk_us, zclamp (by omega)]; exact ⟨rfl, hb⟩
    · rw [pk_un q]; exact g2 e (by omega)
  · show upd F.2.1 (nE F) (nI k) e = nI (upd F.2.1 (nE F) (nI k) e).toNatClampNeg ∧ (upd F.2.1 (nE F) (nI k) e).toNatClampNeg ≤ 6
    by_cases q : e = nE F
    · rw [q, pk_us, zclamp (by omega)]; exact ⟨rfl, hk⟩
    · rw [pk_un q]; exact g3 e (by omega)
  · show upd F.2.2.1 (nE F) (nI f) e = nI (upd F.2.2.1 (nE F) (nI f) e).toNatClampNeg ∧ (upd F.2.2.1 (nE F) (nI f) e).toNatClampNeg ≤ 9
    by_cases q : e = nE F
    · rw [q, pk_us, zclamp (by omega)]; exact ⟨rfl, hf⟩
    · rw [pk_un q]; exact g4 e (by omega)
  · rw [Jo e]
    by_cases q : e = nE F
    · rw [if_pos q]
      refine ⟨Or.inl ?_, by omega, ?_⟩
      · show upd F.2.2.2.1 (nE F) (-9) e = -9
        rw [q, pk_us]
      · rw [Jo, if_pos rfl, q]
    · rw [if_neg q]
      obtain ⟨a1, a2, a3, a4⟩ := hjo e (by omega)
      refine ⟨?_, by omega, ?_⟩
      · show upd F.2.2.2.1 (nE F) (-9) e = -9 ∨ upd F.2.2.2.1 (nE F) (-9) e = nI (jo F e) ∧ _
        rw [pk_un q]
        exact (g5 e (by omega)).1
      · rw [Jo, if_neg (by omega), a2]
  · show T (7 * e + d) = nI (T (7 * e + d)).toNatClampNeg ∧ okT (T (7 * e + d)).toNatClampNeg
    by_cases q : e = nE F
    · have o := h5 d hd
      have o2 : tt d ≤ 9 := by rcases o with o | o <;> omega
      rw [q, h4 d hd, zclamp (by omega)]
      exact ⟨rfl, o⟩
    · rw [h3 (7 * e + d) (by omega)]
      exact g6 e (by omega) d hd
  · rw [bo, KdN, bo_cong (g2 := fun e => kd F e == 6) (fun e he => by rw [Kd e he])]
    show nI (bo (fun e => kd F e == 6) (nE F) ||| (if k = 6 then 2 ^ nE F else 0)) = _
    by_cases q : k = 6
    · rw [if_pos q, if_pos (by simpa using q)]
    · rw [if_neg q, if_neg (by simpa using q)]
  · exact ⟨g8.1, Nat.lt_of_lt_of_le g8.2 (Nat.pow_le_pow_right (by omega) (by omega))⟩
  · exact ⟨g9.1, Nat.lt_of_lt_of_le g9.2 (Nat.pow_le_pow_right (by omega) (by omega))⟩
end E
