/-! the reference reads letters -/
def mK (M : ST_X6) (r V : Nat → Int32) (t : Int32) : ST_X6 := (M.1, M.2.1, M.2.2.1, r, M.2.2.2.2.1, M.2.2.2.2.2.1, V, M.2.2.2.2.2.2.2.1, t, M.2.2.2.2.2.2.2.2.2)
theorem m_copies_loop (A : Nat → Int32) : ∀ (fu i : Nat) (C : Nat → Int32), i ≤ 130 → 130 - i < fu → (∀ j, j < i → C j = A j) → ∃ r, f_X6_copies_b2 A fu C (nI i) = some r ∧ ∀ j, j < 130 → r j = A j := by
  intro fu
  induction fu with
  | zero => intro i C h1 h2; omega
  | succ fu ih =>
    intro i C h1 h2 h3
    rw [f_X6_copies_b2, zL130]
    by_cases q : i = 130
    · rw [if_pos ((nI_leI (by omega) (by omega)).mpr (by omega))]
      rw [q] at h3
      exact ⟨C, rfl, h3⟩
    · rw [if_neg (fun z => absurd ((nI_leI (by omega) (by omega)).mp z) (by omega)), if_pos (zin (by omega) (by omega)), if_pos (zin (by omega) (by omega)), zclamp (by omega), nI_1]
      exact ih (i + 1) _ (by omega) (by omega) (fun j hj => by
        by_cases e : j = i
        · rw [e, pk_us]
        · rw [pk_un e]; exact h3 j (by omega))
theorem m_copies (A C : Nat → Int32) : ∃ r, f_X6_copies A C = some r ∧ ∀ j, j < 130 → r j = A j := by
  rw [f_X6_copies]
  exact m_copies_loop A 4096 0 C (by omega) (by omega) (fun j hj => absurd hj (by omega))
/-- the number that c figures make -/
def dv (g : Nat → Nat) : Nat → Nat → Nat → Nat
  | 0, v, _ => v
  | c + 1, v, i => dv g c (10 * v + (g i - 48)) (i + 1)
theorem okc0 {a : Nat} (h : okc 0 a = true) : 48 ≤ a ∧ a ≤ 57 := by
  rw [okc, if_pos rfl, Bool.and_eq_true] at h
  simpa using h
theorem okc1 {a : Nat} (h : okc 1 a = true) : ks a < 7 := by
  rw [okc, if_neg (by decide), if_pos rfl] at h
  simpa using h
theorem okc2 {a : Nat} (h : okc 2 a = true) : a = 59 := by
  rw [okc, if_neg (by decide), if_neg (by decide)] at h
  simpa using h
section R
variable {Z : ST_X2} {M : ST_X6} {r : Nat → Int32}
theorem m_sigK (h : WL Z) (ht : sT Z M) (V : Nat → Int32) {i : Nat} (hi : i < 2 ^ 31) : f_X6_sign (mK M r V (nI i)) = some (sgn (lt Z i)) := m_sign (M := mK M r V (nI i)) h ht hi rfl
theorem m_dig_loop (h : WL Z) (ht : sT Z M) {k n : Nat} (hk : k < 10) (hn : n < 2 ^ 30) : ∀ c v fu V val i, v + c = n → c < fu → V k = nI val → i + c < 2 ^ 30 → ∃ V', f_X6_readsDigits_b9 fu (mK M r V (nI i)) (nI k) (nI n) (nI v) = some (if (run (lt Z) (List.replicate c 0) i).1 then 1 else 0, mK M r V' (nI (run (lt Z) (List.replicate c 0) i).2)) ∧ (∀ j, j ≠ k → V' j = V j) ∧ ((run (lt Z) (List.replicate c 0) i).1 = true → V' k = nI (dv (lt Z) c val i)) := by
  intro c
  induction c with
  | zero =>
    intro v fu V val i hv hf hV hi
    obtain ⟨fu, rfl⟩ : ∃ z, fu = z + 1 := ⟨fu - 1, by omega⟩
    rw [f_X6_readsDigits_b9, if_pos ((nI_leI (by omega) (by omega)).mpr (by omega))]
    exact ⟨V, rfl, fun _ _ => rfl, fun _ => hV⟩
  | succ c ih =>
    intro v fu V val i hv hf hV hi
    obtain ⟨fu, rfl⟩ : ∃ z, fu = z + 1 := ⟨fu - 1, by omega⟩
    have sig := m_sigK (r := r) h ht V (i := i) (by omega)
    have isn : f_X6_isIn (sgn (lt Z i) - 48) 10 = some (if okc 0 (lt Z i) then 1 else 0) := by
      rcases lt_cases h i with q | q
      · exact l_isIn _ q
      · rw [q]; exact l_isIn'
    rw [f_X6_readsDigits_b9, if_neg (fun z => absurd ((nI_leI (by omega) (by omega)).mp z) (by omega)), ob_eq sig, ob_eq isn, List.replicate_succ, run]
    by_cases q : okc 0 (lt Z i) = true
    · obtain ⟨a1, a2⟩ := okc0 q
      rw [if_pos q, if_neg (by decide), if_pos (zin hk (by omega)), ob_eq sig, if_pos (zin hk (by omega)), if_pos q, zclamp (by omega), sgn_of (by omega)]
      show ∃ V', f_X6_readsDigits_b9 fu (mK M r (upd V k (10 * V k + nI (lt Z i) - 48)) (nI i + 1)) _ _ (nI v + 1) = _ ∧ _
      rw [hV, zL10, zL48, pk_mul, nI_add, pk_sub (by omega), nI_1, nI_1]
      obtain ⟨V', e1, e2, e3⟩ := ih (v + 1) fu (upd V k (nI (10 * val + lt Z i - 48))) (10 * val + lt Z i - 48) (i + 1) (by omega) (by omega) pk_us (by omega)
      refine ⟨V', e1, fun j hj => by rw [e2 j hj, pk_un hj], fun z => ?_⟩
      rw [e3 z, dv, show 10 * val + lt Z i - 48 = 10 * val + (lt Z i - 48) by omega]
    · rw [if_neg q, if_pos rfl, if_neg q]
      exact ⟨V, rfl, fun _ _ => rfl, fun z => absurd z Bool.false_ne_true⟩
theorem m_dig (h : WL Z) (ht : sT Z M) {k n : Nat} (hk : k < 10) (hn : n < 4096) (V : Nat → Int32) {i : Nat} (hi : i + n < 2 ^ 30) : ∃ V', f_X6_readsDigits (mK M r V (nI i)) (nI k) (nI n) = some (if (run (lt Z) (List.replicate n 0) i).1 then 1 else 0, mK M r V' (nI (run (lt Z) (List.replicate n 0) i).2)) ∧ (∀ j, j ≠ k → V' j = V j) ∧ ((run (lt Z) (List.replicate n 0) i).1 = true → V' k = nI (dv (lt Z) n 0 i)) := by
  rw [f_X6_readsDigits, if_pos (zin hk (by omega)), zclamp (by omega)]
  obtain ⟨V', e1, e2, e3⟩ := m_dig_loop (r := r) h ht hk (n := n) (by omega) n 0 4096 (upd V k 0) 0 i (by omega) (by omega) pk_us (by omega)
  exact ⟨V', e1, fun j hj => by rw [e2 j hj, pk_un hj], e3⟩
theorem m_kindr (h : WL Z) (ht : sT Z M) (V : Nat → Int32) {i : Nat} (hi : i < 2 ^ 30) : ∃ V', f_X6_readsKind (mK M r V (nI i)) = some (if (run (lt Z) [1] i).1 then 1 else 0, mK M r V' (nI (run (lt Z) [1] i).2)) ∧ (∀ j, j ≠ 1 → V' j = V j) ∧ ((run (lt Z) [1] i).1 = true → V' 1 = nI (ks (lt Z i))) := by
  have sig := m_sigK (r := r) h ht V (i := i) (by omega)
  have isn : f_X6_kindOf (sgn (lt Z i)) = some (if ks (lt Z i) < 7 then nI (ks (lt Z i)) else -9) := by
    rcases lt_cases h i with q | q
    · exact l_mkind _ q
    · rw [q]; exact l_mkind'
  have e : okc 1 (lt Z i) = decide (ks (lt Z i) < 7) := by rw [okc, if_neg (by decide), if_pos rfl]
  rw [f_X6_readsKind, ob_eq sig, ob_eq isn, pk_us, run]
  by_cases q : ks (lt Z i) < 7
  · have eb : okc 1 (lt Z i) = true := by rw [e]; exact decide_eq_true q
    rw [if_pos q, if_pos (nI_pos' (by omega)), if_pos eb, run]
    exact ⟨upd V 1 (nI (ks (lt Z i))), congrArg (fun t => some ((1 : Int32), mK M r (upd V 1 (nI (ks (lt Z i)))) t)) (nI_1 i), fun j hj => pk_un hj, fun _ => pk_us⟩
  · have eb : ¬ okc 1 (lt Z i) = true := by rw [e, decide_eq_false q]; exact Bool.false_ne_true
    rw [if_neg q, if_neg (by decide), if_neg eb]
    exact ⟨upd V 1 (-9), rfl, fun j hj => pk_un hj, fun z => absurd z Bool.false_ne_true⟩
theorem m_turns_loop (h : WL Z) (ht : sT Z M) : ∀ c v fu V i, v + c = 7 → c < fu → i + c < 2 ^ 30 → ∃ V', f_X6_readsEngine_b29 fu (mK M r V (nI i)) (nI v) = some (if (run (lt Z) (List.replicate c 0) i).1 then 1 else 0, mK M r V' (nI (run (lt Z) (List.replicate c 0) i).2)) ∧ (∀ j, j < 3 + v → V' j = V j) ∧ ((run (lt Z) (List.replicate c 0) i).1 = true → ∀ d, d < c → V' (3 + v + d) = nI (lt Z (i + d) - 48)) := by
  intro c
  induction c with
  | zero =>
    intro v fu V i hv hf hi
    obtain ⟨fu, rfl⟩ : ∃ z, fu = z + 1 := ⟨fu - 1, by omega⟩
    rw [f_X6_readsEngine_b29, zL7, if_pos ((nI_leI (by omega) (by omega)).mpr (by omega))]
    exact ⟨V, rfl, fun _ _ => rfl, fun _ d hd => absurd hd (by omega)⟩
  | succ c ih =>
    intro v fu V i hv hf hi
    obtain ⟨fu, rfl⟩ : ∃ z, fu = z + 1 := ⟨fu - 1, by omega⟩
    obtain ⟨V1, e1, e2, e3⟩ := m_dig (r := r) h ht (k := 3 + v) (n := 1) (by omega) (by omega) V (i := i) (by omega)
    rw [f_X6_readsEngine_b29, zL7, if_neg (fun z => absurd ((nI_leI (by omega) (by omega)).mp z) (by omega)), zL3, zL1, nI_add, ob_eq e1]
    have s1 : run (lt Z) (List.replicate 1 0) i = if okc 0 (lt Z i) then (true, i + 1) else (false, i) := rfl
    rw [s1] at e3 ⊢
    rw [List.replicate_succ, run]
    by_cases q : okc 0 (lt Z i) = true
    · rw [if_pos q] at e3 ⊢
      rw [if_pos q, if_pos rfl]
      show ∃ V', (if nI 1 = 0 then some ((0 : Int32), mK M r V1 (nI (i + 1))) else f_X6_readsEngine_b29 fu (mK M r V1 (nI (i + 1))) (nI v + nI 1)) = _ ∧ _
      rw [if_neg (by decide), nI_add]
      obtain ⟨V', f1, f2, f3⟩ := ih (v + 1) fu V1 (i + 1) (by omega) (by omega) (by omega)
      refine ⟨V', f1, fun j hj => by rw [f2 j (by omega), e2 j (by omega)], fun z d hd => ?_⟩
      by_cases d0 : d = 0
      · subst d0
        rw [f2 (3 + v + 0) (by omega), Nat.add_zero, e3 rfl, dv, dv, Nat.add_zero]
        congr 1; omega
      · have := f3 z (d - 1) (by omega)
        rw [show 3 + (v + 1) + (d - 1) = 3 + v + d by omega, show i + 1 + (d - 1) = i + d by omega] at this
        exact this
    · rw [if_neg q] at e3 ⊢
      rw [if_neg q, if_neg Bool.false_ne_true]
      exact ⟨V1, rfl, fun j hj => e2 j (by omega), fun z => absurd z Bool.false_ne_true⟩
/-- the number of two figures -/
def nm (g : Nat → Nat) (i : Nat) : Nat := 10 * (g i - 48) + (g (i + 1) - 48)
theorem dv2 (g : Nat → Nat) (i : Nat) : dv g 2 0 i = nm g i := by rw [dv, dv, dv, nm]; omega
/-- what is read of a statement at i -/
def vls (g : Nat → Nat) (i : Nat) (V : Nat → Int32) : Prop :=
  V 0 = nI (nm g (i + 1)) ∧ (g i = 106 → V 1 = nI (nm g (i + 3))) ∧
  (g i = 101 → V 1 = nI (ks (g (i + 3))) ∧ V 2 = nI (g (i + 4) - 48) ∧ ∀ d, d < 7 → V (3 + d) = nI (g (i + 5 + d) - 48))
theorem m_engine (h : WL Z) (ht : sT Z M) (V : Nat → Int32) {i : Nat} (hi : i < 2 ^ 20) : ∃ V', f_X6_readsEngine (mK M r V (nI i)) = some (if (run (lt Z) [0, 0, 1, 0, 0, 0, 0, 0, 0, 0, 0] i).1 then 1 else 0, mK M r V' (nI (run (lt Z) [0, 0, 1, 0, 0, 0, 0, 0, 0, 0, 0] i).2)) ∧ ((run (lt Z) [0, 0, 1, 0, 0, 0, 0, 0, 0, 0, 0] i).1 = true → V' 0 = nI (nm (lt Z) i) ∧ V' 1 = nI (ks (lt Z (i + 2))) ∧ V' 2 = nI (lt Z (i + 3) - 48) ∧ ∀ d, d < 7 → V' (3 + d) = nI (lt Z (i + 4 + d) - 48)) := by
  obtain ⟨V1, a1, a2, a3⟩ := m_dig (r := r) h ht (k := 0) (n := 2) (by omega) (by omega) V (i := i) (by omega)
  rw [show ([0, 0, 1, 0, 0, 0, 0, 0, 0, 0, 0] : List Nat) = List.replicate 2 0 ++ [1, 0, 0, 0, 0, 0, 0, 0, 0] from rfl, run_app, f_X6_readsEngine, zL2, show (0 : Int32) = nI 0 from rfl, ob_eq a1]
  by_cases q1 : (run (lt Z) (List.replicate 2 0) i).1 = true
  · have p1 := run_len _ _ _ q1
    rw [List.length_replicate] at p1
    rw [p1]
    have v0 := a3 q1
    rw [dv2] at v0
    rw [if_pos q1, if_pos q1, if_neg (show ¬ (1 : Int32) = nI 0 by decide)]
    obtain ⟨V2, b1, b2, b3⟩ := m_kindr (r := r) h ht V1 (i := i + 2) (by omega)
    rw [show ([1, 0, 0, 0, 0, 0, 0, 0, 0] : List Nat) = [1] ++ [0, 0, 0, 0, 0, 0, 0, 0] from rfl, run_app, ob_eq b1]
    by_cases q2 : (run (lt Z) [1] (i + 2)).1 = true
    · have p2 := run_len _ _ _ q2
      rw [List.length_singleton] at p2
      rw [p2]
      rw [if_pos q2, if_pos q2, if_neg (show ¬ (1 : Int32) = nI 0 by decide)]
      obtain ⟨V3, c1, c2, c3⟩ := m_dig (r := r) h ht (k := 2) (n := 1) (by omega) (by omega) V2 (i := i + 2 + 1) (by omega)
      rw [show ([0, 0, 0, 0, 0, 0, 0, 0] : List Nat) = List.replicate 1 0 ++ List.replicate 7 0 from rfl, run_app, zL1, ob_eq c1]
      by_cases q3 : (run (lt Z) (List.replicate 1 0) (i + 2 + 1)).1 = true
      · have p3 := run_len _ _ _ q3
        rw [List.length_replicate] at p3
        rw [p3]
        rw [if_pos q3, if_pos q3, if_neg (show ¬ (1 : Int32) = nI 0 by decide)]
        obtain ⟨V4, d1, d2, d3⟩ := m_turns_loop (r := r) h ht 7 0 4096 V3 (i + 2 + 1 + 1) (by omega) (by omega) (by omega)
        refine ⟨V4, d1, fun z => ?_⟩
        refine ⟨?_, ?_, ?_, fun d hd => ?_⟩
        · rw [d2 0 (by omega), c2 0 (by omega), b2 0 (by omega), v0]
        · rw [d2 1 (by omega), c2 1 (by omega), b3 q2]
        · rw [d2 2 (by omega), c3 q3, dv, dv, show lt Z (i + 3) = lt Z (i + 2 + 1) from rfl]; congr 1; omega
        · have := d3 z d hd
          rw [Nat.add_zero] at this
          rw [this]
      · rw [if_neg q3, if_neg q3, if_pos (show (0 : Int32) = nI 0 from rfl), f_X6_readsEngine_b25, if_neg q3]
        exact ⟨V3, rfl, fun z => absurd z q3⟩
    · rw [if_neg q2, if_neg q2, if_pos (show (0 : Int32) = nI 0 from rfl), f_X6_readsEngine_b25, if_neg q2]
      exact ⟨V2, rfl, fun z => absurd z q2⟩
  · rw [if_neg q1, if_neg q1, if_pos (show (0 : Int32) = nI 0 from rfl), f_X6_readsEngine_b25, if_neg q1]
    exact ⟨V1, rfl, fun z => absurd z q1⟩
theorem m_last (h : WL Z) (ht : sT Z M) (V : Nat → Int32) {i : Nat} (hi : i < 2 ^ 30) : f_X6_readsStatement_b117 (mK M r V (nI i)) 1 = some (if (run (lt Z) [2] i).1 then 1 else 0, mK M r V (nI (run (lt Z) [2] i).2)) := by
  have sig := m_sigK (r := r) h ht V (i := i) (by omega)
  have e : sgn (lt Z i) = 59 ↔ okc 2 (lt Z i) = true := by
    have k1 : ∀ a, a < 256 → (sgn a = 59 ↔ okc 2 a = true) := by decide +kernel
    rcases lt_cases h i with q | q
    · exact k1 _ q
    · rw [q]; decide
  rw [f_X6_readsStatement_b117, if_neg (by decide), ob_eq sig, zif e, run]
  by_cases q : okc 2 (lt Z i) = true
  · rw [if_pos q, if_pos q, run]
    exact congrArg (fun t => some ((1 : Int32), mK M r V t)) (nI_1 i)
  · rw [if_neg q, if_neg q, f_X6_readsStatement_b130]
    rfl
theorem m_last0 (P : ST_X6) : f_X6_readsStatement_b117 P 0 = some (0, P) := by
  rw [f_X6_readsStatement_b117, if_pos rfl, f_X6_readsStatement_b130]
theorem m_b95 (h : WL Z) (ht : sT Z M) (V : Nat → Int32) {i : Nat} (hi : i < 2 ^ 20) : ∃ V', f_X6_readsStatement_b95 (mK M r V (nI i)) = some (if (run (lt Z) pU i).1 then 1 else 0, mK M r V' (nI (run (lt Z) pU i).2)) ∧ ((run (lt Z) pU i).1 = true → V' 0 = nI (nm (lt Z) i)) := by
  obtain ⟨V1, a1, a2, a3⟩ := m_dig (r := r) h ht (k := 0) (n := 2) (by omega) (by omega) V (i := i) (by omega)
  rw [show pU = List.replicate 2 0 ++ [2] from rfl, run_app, f_X6_readsStatement_b95, zL2, show (0 : Int32) = nI 0 from rfl, ob_eq a1]
  by_cases q1 : (run (lt Z) (List.replicate 2 0) i).1 = true
  · have p1 := run_len _ _ _ q1
    rw [List.length_replicate] at p1
    have v0 := a3 q1
    rw [dv2] at v0
    rw [p1, if_pos q1, if_pos q1]
    exact ⟨V1, m_last h ht V1 (by omega), fun _ => v0⟩
  · rw [if_neg q1, if_neg q1]
    refine ⟨V1, ?_, fun z => absurd z q1⟩
    rw [if_neg q1]
    exact m_last0 _
theorem m_b106 (h : WL Z) (ht : sT Z M) (V : Nat → Int32) {i : Nat} (hi : i < 2 ^ 20) : ∃ V', ((f_X6_readsDigits (mK M r V (nI i)) 0 2).bind fun r8 => if r8.1 = 0 then (f_X6_readsStatement_b90 r8.2) else ((f_X6_readsDigits r8.2 1 2).bind fun r10 => if r10.1 = 0 then (f_X6_readsStatement_b90 r10.2) else (f_X6_readsStatement_b91 r10.2 1))) = some (if (run (lt Z) pJ i).1 then 1 else 0, mK M r V' (nI (run (lt Z) pJ i).2)) ∧ ((run (lt Z) pJ i).1 = true → V' 0 = nI (nm (lt Z) i) ∧ V' 1 = nI (nm (lt Z) (i + 2))) := by
  obtain ⟨V1, a1, a2, a3⟩ := m_dig (r := r) h ht (k := 0) (n := 2) (by omega) (by omega) V (i := i) (by omega)
  rw [show pJ = List.replicate 2 0 ++ (List.replicate 2 0 ++ [2]) from rfl, run_app, zL2, show (0 : Int32) = nI 0 from rfl, ob_eq a1]
  by_cases q1 : (run (lt Z) (List.replicate 2 0) i).1 = true
  · have p1 := run_len _ _ _ q1
    rw [List.length_replicate] at p1
    have v0 := a3 q1
    rw [dv2] at v0
    rw [p1, if_pos q1, if_pos q1, if_neg (show ¬ (1 : Int32) = nI 0 by decide)]
    obtain ⟨V2, b1, b2, b3⟩ := m_dig (r := r) h ht (k := 1) (n := 2) (by omega) (by omega) V1 (i := i + 2) (by omega)
    rw [run_app, zL1, ob_eq b1]
    by_cases q2 : (run (lt Z) (List.replicate 2 0) (i + 2)).1 = true
    · have p2 := run_len _ _ _ q2
      rw [List.length_replicate] at p2
      have v1 := b3 q2
      rw [dv2] at v1
      rw [p2, if_pos q2, if_pos q2, if_neg (show ¬ (1 : Int32) = nI 0 by decide), f_X6_readsStatement_b91]
      exact ⟨V2, m_last h ht V2 (by omega), fun _ => ⟨by rw [b2 0 (by omega), v0], v1⟩⟩
    · rw [if_neg q2, if_neg q2, if_pos (show (0 : Int32) = nI 0 from rfl), f_X6_readsStatement_b90, f_X6_readsStatement_b91]
      refine ⟨V2, ?_, fun z => absurd z q2⟩
      rw [if_neg q2]
      exact m_last0 _
  · rw [if_neg q1, if_neg q1, if_pos (show (0 : Int32) = nI 0 from rfl), f_X6_readsStatement_b90, f_X6_readsStatement_b91]
    refine ⟨V1, ?_, fun z => absurd z q1⟩
    rw [if_neg q1]
    exact m_last0 _
theorem sgn_eq {Z : ST_X2} (h : WL Z) (i a : Nat) (ha : a < 256) : sgn (lt Z i) = nI a ↔ lt Z i = a := by
  rcases lt_cases h i with q | q
  · rw [sgn_of q]; exact zeq (by omega) (by omega)
  · rw [q, sgn, if_pos rfl]
    constructor
    · intro z; exact absurd z (zneg_ne zm1_lt (by omega))
    · intro z; omega
theorem m_stm (h : WL Z) (ht : sT Z M) (V : Nat → Int32) {i : Nat} (hi : i < 2 ^ 16) : ∃ V', f_X6_readsStatement (mK M r V (nI i)) = some (if (stm (lt Z) i).1 then 1 else 0, mK M r V' (nI (stm (lt Z) i).2)) ∧ ((stm (lt Z) i).1 = true → vls (lt Z) i V') := by
  have sig := m_sigK (r := r) h ht V (i := i) (by omega)
  have at1 : ∀ t : Int32, t = nI i + 1 → t = nI (i + 1) := fun t e => by rw [e, nI_1]
  rw [f_X6_readsStatement, ob_eq sig, show (101 : Int32) = nI 101 from rfl, show (102 : Int32) = nI 102 from rfl, show (106 : Int32) = nI 106 from rfl, show (117 : Int32) = nI 117 from rfl, zif (sgn_eq h i 101 (by omega))]
  by_cases g1 : lt Z i = 101
  · have es : stm (lt Z) i = run (lt Z) pE (i + 1) := by rw [stm, g1]; rfl
    rw [if_pos g1, es]
    show ∃ V', (f_X6_readsEngine (mK M r V (nI i + 1))).bind _ = _ ∧ _
    rw [nI_1]
    obtain ⟨V1, a1, a2⟩ := m_engine (r := r) h ht V (i := i + 1) (by omega)
    rw [ob_eq a1, show pE = [0, 0, 1, 0, 0, 0, 0, 0, 0, 0, 0] ++ [2] from rfl, run_app]
    by_cases q1 : (run (lt Z) [0, 0, 1, 0, 0, 0, 0, 0, 0, 0, 0] (i + 1)).1 = true
    · have p1 := run_len _ _ _ q1
      have pl := run_ge (lt Z) [0, 0, 1, 0, 0, 0, 0, 0, 0, 0, 0] (i + 1)
      obtain ⟨b1, b2, b3, b4⟩ := a2 q1
      rw [if_pos q1, if_pos q1]
      refine ⟨V1, m_last h ht V1 (by simp at pl; omega), fun _ => ⟨b1, fun z => by omega, fun _ => ⟨b2, b3, fun d hd => ?_⟩⟩⟩
      rw [b4 d hd]
    · rw [if_neg q1, if_neg q1]
      refine ⟨V1, ?_, fun z => absurd z q1⟩
      rw [if_neg q1]
      exact m_last0 _
  · rw [if_neg g1, zif (sgn_eq h i 102 (by omega))]
    have goU : lt Z i = 102 ∨ lt Z i = 117 → ∃ V', f_X6_readsStatement_b95 (mK M r V (nI i + 1)) = some (if (stm (lt Z) i).1 then 1 else 0, mK M r V' (nI (stm (lt Z) i).2)) ∧ ((stm (lt Z) i).1 = true → vls (lt Z) i V') := by
      intro g
      have es : stm (lt Z) i = run (lt Z) pU (i + 1) := by rcases g with g | g <;> rw [stm, g] <;> rfl
      rw [es, nI_1]
      obtain ⟨V1, a1, a2⟩ := m_b95 (r := r) h ht V (i := i + 1) (by omega)
      exact ⟨V1, a1, fun z => ⟨a2 z, fun w => by omega, fun w => by omega⟩⟩
    by_cases g2 : lt Z i = 102
    · rw [if_pos g2]
      exact goU (Or.inl g2)
    · rw [if_neg g2, zif (sgn_eq h i 106 (by omega))]
      by_cases g3 : lt Z i = 106
      · have es : stm (lt Z) i = run (lt Z) pJ (i + 1) := by rw [stm, g3]; rfl
        rw [if_pos g3, es]
        obtain ⟨V1, a1, a2⟩ := m_b106 (r := r) h ht V (i := i + 1) (by omega)
        rw [← nI_1] at a1
        exact ⟨V1, a1, fun z => ⟨(a2 z).1, fun _ => (a2 z).2, fun w => by omega⟩⟩
      · rw [if_neg g3, zif (sgn_eq h i 117 (by omega))]
        by_cases g4 : lt Z i = 117
        · rw [if_pos g4]
          exact goU (Or.inr g4)
        · have ep : pat (lt Z i) = [] := by rw [pat, if_neg g1, if_neg g3, if_neg g4, if_neg g2]
          have es : stm (lt Z) i = (false, i) := by rw [stm, if_pos ep]
          rw [if_neg g4, es]
          refine ⟨V, ?_, fun z => absurd z Bool.false_ne_true⟩
          show some ((0 : Int32), mK M r V (nI i + 1 - 1)) = some (0, mK M r V (nI i))
          rw [nI_1, nI_pred]
end R
