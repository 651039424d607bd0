/-! copies; landing what the letters tell -/
def agF (F F' : ST_X1) : Prop :=
  (∀ e, e < 7 → F'.1 e = F.1 e ∧ F'.2.1 e = F.2.1 e ∧ F'.2.2.1 e = F.2.2.1 e ∧ F'.2.2.2.1 e = F.2.2.2.1 e) ∧ (∀ j, j < 49 → F'.2.2.2.2.1 j = F.2.2.2.2.1 j) ∧ F'.2.2.2.2.2 = F.2.2.2.2.2
def agS (s s' : Nat → Int32) : Prop := ∀ j, j < 130 → s' j = s j
def agB (B B' : ST_X0) : Prop :=
  (∀ i, i < 12 → B'.1 i = B.1 i ∧ B'.2.1 i = B.2.1 i ∧ B'.2.2.1 i = B.2.2.1 i ∧ B'.2.2.2.1 i = B.2.2.2.1 i) ∧ B'.2.2.2.2 = B.2.2.2.2
theorem agF_WF {F F' : ST_X1} (h : WF F) (a : agF F F') : WF F' := by
  have h7 := h.n7
  obtain ⟨a1, a2, a3⟩ := a
  have n' : nE F' = nE F := by unfold nE; rw [a3]
  have J : ∀ e, e < 7 → jo F' e = jo F e := fun e he => by unfold jo; rw [(a1 e he).2.2.2]
  obtain ⟨h1, h2, h3, h4, h5, h6, h7', h8, h9⟩ := h
  unfold WF
  rw [n']
  refine ⟨?_, fun e he => ?_, fun e he => ?_, fun e he => ?_, fun e he => ?_, fun e he d hd => ?_, ?_, ?_, ?_⟩
  · rw [a3]; exact h1
  · unfold nu; rw [(a1 e (by omega)).1]; exact h2 e he
  · unfold kd; rw [(a1 e (by omega)).2.1]; exact h3 e he
  · unfold fg; rw [(a1 e (by omega)).2.2.1]; exact h4 e he
  · obtain ⟨p, q, w⟩ := h5 e he
    rw [J e (by omega), J (jo F e) (by omega), (a1 e (by omega)).2.2.2]
    exact ⟨p, q, w⟩
  · unfold tn; rw [a2 (7 * e + d) (by omega)]; exact h6 e he d hd
  · rw [a3, bo_cong (g2 := fun e => kd F e == 6) (fun e he => by unfold kd; rw [(a1 e (by omega)).2.1])]; exact h7'
  · unfold uL; rw [a3]; exact h8
  · unfold fL; rw [a3]; exact h9
theorem agF_sF {F F' : ST_X1} {s s' : Nat → Int32} (h : WF F) (a : agF F F') (b : agS s s') (hs : sF F s) : sF F' s' := by
  have h7 := h.n7
  obtain ⟨a1, a2, a3⟩ := a
  have n' : nE F' = nE F := by unfold nE; rw [a3]
  obtain ⟨s0, s2, s3, se⟩ := hs
  refine ⟨by rw [b 0 (by omega), a3]; exact s0, by rw [b 2 (by omega), a3]; exact s2, by rw [b 3 (by omega), a3]; exact s3, fun e he => ?_⟩
  rw [n'] at he
  obtain ⟨g1, g2, g3, g4, g5⟩ := se e he
  obtain ⟨c1, c2, c3, c4⟩ := a1 e (by omega)
  refine ⟨by rw [b _ (by omega), c1]; exact g1, by rw [b _ (by omega), c2]; exact g2, by rw [b _ (by omega), c3]; exact g3, by rw [b _ (by omega), c4]; exact g4, fun d hd => by rw [b _ (by omega), a2 _ (by omega)]; exact g5 d hd⟩
theorem agB_WB {B B' : ST_X0} (h : WB B) (a : agB B B') : WB B' := by
  have h12 := h.1.2
  obtain ⟨a1, a2⟩ := a
  have n' : nB B' = nB B := by unfold nB; rw [a2]
  obtain ⟨h1, h2⟩ := h
  refine ⟨by rw [n', a2]; exact h1, fun i hi => ?_⟩
  rw [n'] at hi
  obtain ⟨c1, c2, c3, c4⟩ := a1 i (by omega)
  unfold bd bp bn bb
  rw [c1, c2, c3, c4]
  exact h2 i hi
theorem agB_sB {B B' : ST_X0} {s s' : Nat → Int32} (h : WB B) (a : agB B B') (b : agS s s') (hs : sB B s) : sB B' s' := by
  have h12 := h.1.2
  obtain ⟨a1, a2⟩ := a
  have n' : nB B' = nB B := by unfold nB; rw [a2]
  refine ⟨by rw [b 4 (by omega), a2]; exact hs.1, fun i hi => ?_⟩
  rw [n'] at hi
  obtain ⟨c1, c2, c3, c4⟩ := a1 i (by omega)
  rw [b _ (by omega), b _ (by omega), b _ (by omega), b _ (by omega), c1, c2, c3, c4]
  exact hs.2 i hi
theorem x_copyF (A F : ST_X1) : ∃ F', f_X1_copyFrom A F = some F' ∧ agF F F' := by
  refine ⟨_, rfl, fun e he => ⟨?_, ?_, ?_, ?_⟩, fun j hj => ?_, rfl⟩
  · show va_cpy F.1 A.1 0 0 7 e = _
    rw [pk_cpy_in (Nat.zero_le _) (by omega), show 0 + (e - 0) = e by omega]
  · show va_cpy F.2.1 A.2.1 0 0 7 e = _
    rw [pk_cpy_in (Nat.zero_le _) (by omega), show 0 + (e - 0) = e by omega]
  · show va_cpy F.2.2.1 A.2.2.1 0 0 7 e = _
    rw [pk_cpy_in (Nat.zero_le _) (by omega), show 0 + (e - 0) = e by omega]
  · show va_cpy F.2.2.2.1 A.2.2.2.1 0 0 7 e = _
    rw [pk_cpy_in (Nat.zero_le _) (by omega), show 0 + (e - 0) = e by omega]
  · show va_cpy F.2.2.2.2.1 A.2.2.2.2.1 0 0 49 j = _
    rw [pk_cpy_in (Nat.zero_le _) (by omega), show 0 + (j - 0) = j by omega]
theorem x_copyB (A B : ST_X0) : ∃ B', f_X0_copyFrom A B = some B' ∧ agB B B' := by
  refine ⟨_, rfl, fun e he => ⟨?_, ?_, ?_, ?_⟩, rfl⟩
  · show va_cpy B.1 A.1 0 0 12 e = _
    rw [pk_cpy_in (Nat.zero_le _) (by omega), show 0 + (e - 0) = e by omega]
  · show va_cpy B.2.1 A.2.1 0 0 12 e = _
    rw [pk_cpy_in (Nat.zero_le _) (by omega), show 0 + (e - 0) = e by omega]
  · show va_cpy B.2.2.1 A.2.2.1 0 0 12 e = _
    rw [pk_cpy_in (Nat.zero_le _) (by omega), show 0 + (e - 0) = e by omega]
  · show va_cpy B.2.2.2.1 A.2.2.2.1 0 0 12 e = _
    rw [pk_cpy_in (Nat.zero_le _) (by omega), show 0 + (e - 0) = e by omega]
theorem x_copyW (A W : ST_X4) : ∃ W', f_X4_copyFrom A W = some W' ∧ agF W.1 W'.1 ∧ agB W.2.1 W'.2.1 ∧ W'.2.2 = W.2.2 := by
  obtain ⟨F', f1, f2⟩ := x_copyF A.1 W.1
  obtain ⟨B', b1, b2⟩ := x_copyB A.2.1 W.2.1
  refine ⟨(F', B', W.2.2), ?_, f2, b2, rfl⟩
  rw [f_X4_copyFrom, ob_eq f1, ob_eq b1]
/-- how many statements -/
def nst (g : Nat → Nat) (z : Nat) : Nat → Nat → Nat
  | 0, _ => 0
  | k + 1, i => if (stm g i).2 < z then 1 + nst g z k (stm g i).2 else 1
def sT5 (S : ST_X5) (F : ST_X1) : ST_X5 := (S.1, S.2.1, S.2.2.1, S.2.2.2.1, F, S.2.2.2.2.2)
section L
variable {S : ST_X5} {M : ST_X6}
theorem ph_succ (g : Nat → Nat) (z k i : Nat) : ph g z (k + 1) i = if (stm g i).1 then (if (stm g i).2 < z then ph g z k (stm g i).2 else -1) else nI (stm g i).2 := rfl
theorem m_phase1 {Z : ST_X2} (h : WL Z) (ht : sT Z M) {r : Nat → Int32} : ∀ k fu i c V, i ≤ 64 → zN Z - i < k → k ≤ fu → (ph (lt Z) (zN Z) k i = -1 → ∃ V', f_X6_reads_b7 fu (mK M r V (nI i)) (nI c) = (f_X6_copies M.2.1 r).bind fun r10 => f_X6_reads_b53 4096 (mK M r10 V' 0) (nI (c + nst (lt Z) (zN Z) k i))) ∧ (ph (lt Z) (zN Z) k i ≠ -1 → ¬ ph (lt Z) (zN Z) k i < 0 ∧ ∃ V' t', f_X6_reads_b7 fu (mK M r V (nI i)) (nI c) = some ((-1000) - ph (lt Z) (zN Z) k i, mK M r V' t')) := by
  have h64 := h.1.2
  intro k
  induction k with
  | zero => intro fu i c V _ hk; omega
  | succ k ih =>
    intro fu i c V hi hk hf
    obtain ⟨fu, rfl⟩ : ∃ z, fu = z + 1 := ⟨fu - 1, by omega⟩
    obtain ⟨V1, e1, -⟩ := m_stm (r := r) h ht V (i := i) (by omega)
    have le := stm_le (lt Z) i
    rw [f_X6_reads_b7, ob_eq e1, ph_succ, nst]
    by_cases q : (stm (lt Z) i).1 = true
    · have gt := stm_gt q
      have le2 := (stm_ok q).2.2.2
      rw [if_pos q, if_pos q]
      show (_ → ∃ V', (if (1 : Int32) = 0 then _ else if nI (stm (lt Z) i).2 < M.2.2.2.2.2.2.2.1 then f_X6_reads_b7 fu (mK M r V1 (nI (stm (lt Z) i).2)) (nI c + 1) else (f_X6_copies M.2.1 r).bind fun r10 => f_X6_reads_b53 4096 (mK M r10 V1 0) (nI c + 1)) = _) ∧ (_ → _ ∧ ∃ V' t', (if (1 : Int32) = 0 then _ else if nI (stm (lt Z) i).2 < M.2.2.2.2.2.2.2.1 then f_X6_reads_b7 fu (mK M r V1 (nI (stm (lt Z) i).2)) (nI c + 1) else (f_X6_copies M.2.1 r).bind fun r10 => f_X6_reads_b53 4096 (mK M r10 V1 0) (nI c + 1)) = _)
      rw [if_neg (show ¬ (1 : Int32) = 0 by decide), ht.1, h.1.1, zif (nI_ltI (by omega) (by omega)), nI_1]
      by_cases q2 : (stm (lt Z) i).2 < zN Z
      · rw [if_pos q2, if_pos q2, if_pos q2]
        have := ih fu (stm (lt Z) i).2 (c + 1) V1 (by omega) (by omega) (by omega)
        rw [Nat.add_assoc] at this
        exact this
      · rw [if_neg q2, if_neg q2, if_neg q2]
        exact ⟨fun _ => ⟨V1, rfl⟩, fun z => absurd rfl z⟩
    · rw [if_neg q, if_neg q]
      exact ⟨fun z => absurd z.symm (zneg_ne zm1_lt (by omega)), fun _ => ⟨zn_neg (by omega), V1, _, rfl⟩⟩
theorem okc_59 {c a : Nat} (hc : c < 2) (h : okc c a = true) : a ≠ 59 := by
  intro e
  have : ∀ c, c < 2 → okc c 59 = false := by decide
  rw [e, this c hc] at h
  cases h
theorem x_skip (h : WL S.1) (F : ST_X1) (v2 v3 : Int32) : ∀ cs j fu, (∀ c ∈ cs, c < 2) → (run (lt S.1) (cs ++ [2]) j).1 = true → cs.length < fu → f_X5_landTold_b39 fu (sT5 S F) v2 v3 (nI j) = f_X5_landTold_b39 (fu - cs.length) (sT5 S F) v2 v3 (nI (j + cs.length)) := by
  have h64 := h.1.2
  intro cs
  induction cs with
  | nil => intro j fu _ _ _; rfl
  | cons c cs ih =>
    intro j fu hc hr hf
    obtain ⟨fu, rfl⟩ : ∃ z, fu = z + 1 := ⟨fu - 1, by omega⟩
    have hin := run_in (Z := S.1) ((c :: cs) ++ [2]) (by
      intro x hx
      rw [List.mem_append] at hx
      rcases hx with hx | hx
      · have := hc x hx; omega
      · have : x = 2 := by simpa using hx
        omega) j hr (by simp)
    rw [List.length_append, List.length_cons] at hin
    rw [List.cons_append, run] at hr
    by_cases q : okc c (lt S.1 j) = true
    · rw [if_pos q] at hr
      have n59 := okc_59 (hc c (by simp)) q
      have e59 : ¬ sgn (lt S.1 j) = 59 := fun z => n59 ((sgn_eq h j 59 (by omega)).mp z)
      rw [List.length_cons] at hf ⊢
      rw [f_X5_landTold_b39, show (sT5 S F).1 = S.1 from rfl, h.1.1, if_neg (fun z => absurd ((nI_leI (by omega) (by omega)).mp z) (by omega)), ob_eq (x_sign h (by omega)), if_neg e59, f_X5_landTold_b94, nI_1, ih (j + 1) fu (fun x hx => hc x (by simp [hx])) hr (by omega), show fu + 1 - (cs.length + 1) = fu - cs.length by omega, show j + 1 + cs.length = j + (cs.length + 1) by omega]
    · rw [if_neg q] at hr; cases hr
theorem pat_init (a : Nat) (h : pat a ≠ []) : ∃ cs, pat a = cs ++ [2] ∧ (∀ c ∈ cs, c < 2) ∧ (a = 101 ∨ a = 106 ∨ a = 117 ∨ a = 102) := by
  rcases pat_cases a with q | ⟨p, q⟩ | ⟨p, q⟩ | ⟨p, q⟩ | ⟨p, q⟩
  · exact absurd q h
  · exact ⟨[0, 0, 1, 0, 0, 0, 0, 0, 0, 0, 0], q, by decide, by omega⟩
  · exact ⟨[0, 0, 0, 0], q, by decide, by omega⟩
  · exact ⟨[0, 0], q, by decide, by omega⟩
  · exact ⟨[0, 0], q, by decide, by omega⟩
/-- what the second part of a landing comes to, on both sides -/
def LD (S : ST_X5) (M : ST_X6) (r : Nat → Int32) (c C : Nat) (x : Option (Int32 × ST_X5)) (m : Option (Int32 × ST_X6)) : Prop :=
  (∃ F' r' V' t' v, x = some (v, sT5 S F') ∧ m = some (v, mK M r' V' t')) ∨
  (∃ F' r' V' t' , WF F' ∧ sF F' r' ∧ kp r r' ∧ x = ((f_X1_copyFrom S.2.1.1 F').bind fun r2 => some (nI c, (S.1, (r2, S.2.1.2.1, S.2.1.2.2), S.2.2.1, S.2.2.2.1, F', S.2.2.2.2.2))) ∧ m = ((f_X6_copies r' M.2.1).bind fun r2 => some (nI C, (M.1, r2, M.2.2.1, r', M.2.2.2.2.1, M.2.2.2.2.2.1, V', M.2.2.2.2.2.2.2.1, t', M.2.2.2.2.2.2.2.2.2))))
theorem x_end (h : WL S.1) (F : ST_X1) (c i : Nat) (v3 : Int32) (fu : Nat) (hi : i = zN S.1) : f_X5_landTold_b39 (fu + 1) (sT5 S F) (nI c) v3 (nI i) = ((f_X1_copyFrom S.2.1.1 F).bind fun r2 => some (nI c, (S.1, (r2, S.2.1.2.1, S.2.1.2.2), S.2.2.1, S.2.2.2.1, F, S.2.2.2.2.2))) := by
  have h64 := h.1.2
  rw [f_X5_landTold_b39, show (sT5 S F).1 = S.1 from rfl, h.1.1, if_pos ((nI_leI (by omega) (by omega)).mpr (by omega))]
  rfl
theorem m_end {Z : ST_X2} (h : WL Z) (ht : sT Z M) (r V : Nat → Int32) (C i fu : Nat) (hi : i = zN Z) : f_X6_reads_b53 (fu + 1) (mK M r V (nI i)) (nI C) = ((f_X6_copies r M.2.1).bind fun r2 => some (nI C, (M.1, r2, M.2.2.1, r, M.2.2.2.2.1, M.2.2.2.2.2.1, V, M.2.2.2.2.2.2.2.1, nI i, M.2.2.2.2.2.2.2.2.2))) := by
  have h64 := h.1.2
  rw [f_X6_reads_b53, show (mK M r V (nI i)).2.2.2.2.2.2.2.1 = M.2.2.2.2.2.2.2.1 from rfl, ht.1, h.1.1, show (mK M r V (nI i)).2.2.2.2.2.2.2.2.1 = nI i from rfl, if_pos ((nI_leI (by omega) (by omega)).mpr (by omega))]
  rfl
theorem kp_trans {r r' r'' : Nat → Int32} (a : kp r r') (b : kp r' r'') : kp r r'' := ⟨by rw [b.1, a.1], by rw [b.2.1, a.2.1], fun j hj => by rw [b.2.2 j hj, a.2.2 j hj]⟩
theorem both_phase2 (h : WL S.1) (ht : sT S.1 M) (C : Nat) : ∀ k i fu fu2 c F r V, i < zN S.1 → zN S.1 - i < k → zN S.1 - i < fu → k < fu2 → WF F → sF F r → ph (lt S.1) (zN S.1) k i = -1 → LD S M r (c + nst (lt S.1) (zN S.1) k i) C (f_X5_landTold_b39 fu (sT5 S F) (nI c) (nI i) (nI i)) (f_X6_reads_b53 fu2 (mK M r V (nI i)) (nI C)) := by
  have h64 := h.1.2
  intro k
  induction k with
  | zero => intro i fu fu2 c F r V _ hk; omega
  | succ k ih =>
    intro i fu fu2 c F r V hi hk hf hf2 hF hs hp
    obtain ⟨fu, rfl⟩ : ∃ z, fu = z + 1 := ⟨fu - 1, by omega⟩
    obtain ⟨fu2, rfl⟩ : ∃ z, fu2 = z + 1 := ⟨fu2 - 1, by omega⟩
    have le := stm_le (lt S.1) i
    rw [ph_succ] at hp
    by_cases q : (stm (lt S.1) i).1 = true
    · rw [if_pos q] at hp
      obtain ⟨pne, rok, seq, sle⟩ := stm_ok q
      obtain ⟨cs, ecs, c2, ea⟩ := pat_init _ pne
      have gt := stm_gt q
      have len : (pat (lt S.1 i)).length = cs.length + 1 := by rw [ecs]; simp
      obtain ⟨V1, e1, hv⟩ := m_stm (M := M) (r := r) h ht V (i := i) (by omega)
      rw [if_pos q] at e1
      obtain ⟨F', r', b, t1, t2, t3⟩ := tk (F := F) (Z := S.1) (M := M) (r := r) (V := V1) hF hs h (nI (stm (lt S.1) i).2) (i := i) (by omega) q (hv q)
      have sigM := m_sigK (M := M) (r := r) h ht V (i := i) (by omega)
      -- the class: over the letters to the end of the statement
      have X0 : f_X5_landTold_b39 (fu + 1) (sT5 S F) (nI c) (nI i) (nI i) = f_X5_landTold_b39 (fu - cs.length) (sT5 S F) (nI c) (nI i) (nI (i + 1 + cs.length)) := by
        have n59 : ¬ sgn (lt S.1 i) = 59 := fun z => by
          have := (sgn_eq h i 59 (by omega)).mp z
          omega
        rw [f_X5_landTold_b39, show (sT5 S F).1 = S.1 from rfl, h.1.1, if_neg (fun z => absurd ((nI_leI (by omega) (by omega)).mp z) (by omega)), ob_eq (x_sign h (by omega)), if_neg n59, f_X5_landTold_b94, nI_1]
        rw [ecs] at rok
        exact x_skip h F _ _ cs (i + 1) fu c2 rok (by omega)
      have s59 : sgn (lt S.1 (i + 1 + cs.length)) = 59 := by
        have o := run_at _ _ _ rok cs.length 2 (by rw [ecs]; simp)
        exact (sgn_eq h _ 59 (by omega)).mpr (okc2 o)
      obtain ⟨fx, hfx⟩ : ∃ z, fu - cs.length = z + 1 := ⟨fu - cs.length - 1, by omega⟩
      have X1 : f_X5_landTold_b39 (fx + 1) (sT5 S F) (nI c) (nI i) (nI (i + 1 + cs.length)) = if b = true then f_X5_landTold_b39 fx (sT5 S F') (nI (c + 1)) (nI (stm (lt S.1) i).2) (nI (stm (lt S.1) i).2) else some ((-2000) - nI i, sT5 S F') := by
        have t1' : f_X1_takes (sT5 S F).2.2.2.2.1 S.1 (nI i) = some (if b = true then 1 else 0, F') := t1
        rw [f_X5_landTold_b39, show (sT5 S F).1 = S.1 from rfl, h.1.1, if_neg (fun z => absurd ((nI_leI (by omega) (by omega)).mp z) (by omega)), ob_eq (x_sign h (by omega)), if_pos s59, ob_eq t1']
        cases b with
        | false => rfl
        | true =>
          rw [if_pos rfl, if_neg (show ¬ (1 : Int32) = 0 by decide), if_pos rfl, f_X5_landTold_b94, nI_1, nI_1, show i + 1 + cs.length + 1 = (stm (lt S.1) i).2 by omega]
          rfl
      have M1 : f_X6_reads_b53 (fu2 + 1) (mK M r V (nI i)) (nI C) = if b = true then f_X6_reads_b53 fu2 (mK M r' V1 (nI (stm (lt S.1) i).2)) (nI C) else some ((-2000) - nI i, mK M r' V1 (nI (stm (lt S.1) i).2)) := by
        rw [f_X6_reads_b53, show (mK M r V (nI i)).2.2.2.2.2.2.2.1 = M.2.2.2.2.2.2.2.1 from rfl, ht.1, h.1.1, show (mK M r V (nI i)).2.2.2.2.2.2.2.2.1 = nI i from rfl, if_neg (fun z => absurd ((nI_leI (by omega) (by omega)).mp z) (by omega)), ob_eq sigM, ob_eq e1]
        show (f_X6_comes (mK M r V1 (nI (stm (lt S.1) i).2)) (sgn (lt S.1 i))).bind _ = _
        rw [ob_eq t2]
        cases b with
        | false => rfl
        | true => rfl
      rw [X0, hfx, X1, M1]
      cases b with
      | false => exact Or.inl ⟨F', r', V1, _, _, rfl, rfl⟩
      | true =>
        obtain ⟨w1, w2, w3⟩ := t3 rfl
        rw [if_pos rfl, if_pos rfl, nst]
        by_cases q2 : (stm (lt S.1) i).2 < zN S.1
        · rw [if_pos q2] at hp ⊢
          have R := ih (stm (lt S.1) i).2 fx fu2 (c + 1) F' r' V1 q2 (by omega) (by omega) (by omega) w1 w2 hp
          rw [Nat.add_assoc] at R
          rcases R with R | ⟨F2, r2, V2, t2, a1, a2, a3, a4⟩
          · exact Or.inl R
          · exact Or.inr ⟨F2, r2, V2, t2, a1, a2, kp_trans w3 a3, a4⟩
        · obtain ⟨fx2, rfl⟩ : ∃ z, fx = z + 1 := ⟨fx - 1, by omega⟩
          obtain ⟨fu3, rfl⟩ : ∃ z, fu2 = z + 1 := ⟨fu2 - 1, by omega⟩
          rw [if_neg q2, x_end h F' (c + 1) _ _ _ (by omega), m_end h ht r' V1 C _ _ (by omega)]
          exact Or.inr ⟨F', r', V1, _, w1, w2, w3, rfl, rfl⟩
    · rw [if_neg q] at hp
      exact absurd hp.symm (zneg_ne zm1_lt (by omega))
end L
