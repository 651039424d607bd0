/-! an engine's statement on both sides; any statement -/
section E
variable {F : ST_X1} {Z : ST_X2} {M : ST_X6} {r V : Nat → Int32}
def newR (r V : Nat → Int32) (v : Nat) : Nat → Int32 := upd (upd (upd (upd r v (V 0)) (v + 1) (V 1)) (v + 2) (V 2)) (v + 3) (-9)
theorem newR_at {v j : Nat} (hj : j < v ∨ v + 4 ≤ j) : newR r V v j = r j := by
  rw [newR, pk_un (by omega), pk_un (by omega), pk_un (by omega), pk_un (by omega)]
theorem m_eng {t : Int32} (h0 : r 0 = nI (nE F)) (hn : nE F < 7) : f_X6_comes_b45 1 (mK M r V t) (nI 10) = f_X6_comes_b144 4096 (mK M (newR r V (5 + 11 * nE F)) V t) (nI (5 + 11 * nE F)) (nI 0) := by
  have e0 : inB (nI (5 + 11 * nE F)) 130 := zin (by omega) (by omega)
  have e1 : inB (nI (5 + 11 * nE F + 1)) 130 := zin (by omega) (by omega)
  have e2 : inB (nI (5 + 11 * nE F + 2)) 130 := zin (by omega) (by omega)
  have e3 : inB (nI (5 + 11 * nE F + 3)) 130 := zin (by omega) (by omega)
  have c0 : (nI (5 + 11 * nE F)).toNatClampNeg = 5 + 11 * nE F := zclamp (by omega)
  have c1 : (nI (5 + 11 * nE F + 1)).toNatClampNeg = 5 + 11 * nE F + 1 := zclamp (by omega)
  have c2 : (nI (5 + 11 * nE F + 2)).toNatClampNeg = 5 + 11 * nE F + 2 := zclamp (by omega)
  have c3 : (nI (5 + 11 * nE F + 3)).toNatClampNeg = 5 + 11 * nE F + 3 := zclamp (by omega)
  have b : (5 : Int32) + 11 * nI (nE F) = nI (5 + 11 * nE F) := by rw [zL5, zL11, pk_mul, nI_add]
  have b1 : nI (5 + 11 * nE F) + 1 = nI (5 + 11 * nE F + 1) := nI_1 _
  have b2 : nI (5 + 11 * nE F) + 2 = nI (5 + 11 * nE F + 2) := nI_add _ 2
  have b3 : nI (5 + 11 * nE F) + 3 = nI (5 + 11 * nE F + 3) := nI_add _ 3
  rw [f_X6_comes_b45, if_pos (show (10 : Int32) ≤ nI 10 by decide)]
  simp only [show (mK M r V t).2.2.2.1 = r from rfl, h0, b, b1, b2, b3, if_pos e0, if_pos e1, if_pos e2, if_pos e3, c0, c1, c2, c3]
  rfl
theorem newF_sF (h : WF F) (hn : nE F < 7) {T : Nat → Int32} {b k f : Nat} {tt : Nat → Nat} {r' : Nat → Int32} (hs : sF F r) (v0 : V 0 = nI b) (v1 : V 1 = nI k) (v2 : V 2 = nI f) (v3 : ∀ d, d < 7 → V (3 + d) = nI (tt d)) (h3 : ∀ j, j < 7 * nE F → T j = F.2.2.2.2.1 j) (h4 : ∀ d, d < 7 → T (7 * nE F + d) = nI (tt d)) (r0 : r' 0 = newR r V (5 + 11 * nE F) 0 + 1) (r1 : ∀ j, j ≠ 0 → r' j = if 5 + 11 * nE F + 4 + 0 ≤ j ∧ j < 5 + 11 * nE F + 4 + 7 then V (3 + (j - (5 + 11 * nE F + 4))) else newR r V (5 + 11 * nE F) j) : sF (newF F T b k f) r' ∧ kp r r' := by
  have n' : nE (newF F T b k f) = nE F + 1 := zclamp (by omega)
  obtain ⟨s0, s2, s3, se⟩ := hs
  have low : ∀ j, j ≠ 0 → (j < 5 + 11 * nE F ∨ 82 ≤ j) → r' j = r j := by
    intro j j0 hj
    rw [r1 j j0, if_neg (by omega), newR_at (by omega)]
  refine ⟨⟨?_, ?_, ?_, fun e he => ?_⟩, ?_, ?_, fun j hj => low j (by omega) (by omega)⟩
  · rw [r0, newR_at (by omega), s0, h.size, nI_1]; rfl
  · rw [low 2 (by omega) (by omega), s2]; rfl
  · rw [low 3 (by omega) (by omega), s3]; rfl
  · rw [n'] at he
    by_cases q : e = nE F
    · subst q
      refine ⟨?_, ?_, ?_, ?_, fun d hd => ?_⟩
      · show _ = upd F.1 (nE F) (nI b) (nE F)
        rw [pk_us, r1 _ (by omega), if_neg (by omega), newR, pk_un (by omega), pk_un (by omega), pk_un (by omega), pk_us, v0]
      · show _ = upd F.2.1 (nE F) (nI k) (nE F)
        rw [pk_us, r1 _ (by omega), if_neg (by omega), newR, pk_un (by omega), pk_un (by omega), pk_us, v1]
      · show _ = upd F.2.2.1 (nE F) (nI f) (nE F)
        rw [pk_us, r1 _ (by omega), if_neg (by omega), newR, pk_un (by omega), pk_us, v2]
      · show _ = upd F.2.2.2.1 (nE F) (-9) (nE F)
        rw [pk_us, r1 _ (by omega), if_neg (by omega), newR, pk_us]
      · show _ = T (7 * nE F + d)
        rw [r1 _ (by omega), if_pos (by omega), show 5 + 11 * nE F + (4 + d) - (5 + 11 * nE F + 4) = d by omega, v3 d hd, h4 d hd]
    · obtain ⟨g1, g2, g3, g4, g5⟩ := se e (by omega)
      refine ⟨?_, ?_, ?_, ?_, fun d hd => ?_⟩
      · show _ = upd F.1 (nE F) (nI b) e
        rw [pk_un q, low _ (by omega) (by omega), g1]
      · show _ = upd F.2.1 (nE F) (nI k) e
        rw [pk_un q, low _ (by omega) (by omega), g2]
      · show _ = upd F.2.2.1 (nE F) (nI f) e
        rw [pk_un q, low _ (by omega) (by omega), g3]
      · show _ = upd F.2.2.2.1 (nE F) (-9) e
        rw [pk_un q, low _ (by omega) (by omega), g4]
      · show _ = T (7 * e + d)
        rw [h3 _ (by omega), low _ (by omega) (by omega), g5 d hd]
  · exact low 1 (by omega) (by omega)
  · exact low 4 (by omega) (by omega)
theorem tk_e (h : WF F) (hs : sF F r) (hL : WL Z) (t : Int32) {i : Nat} (hi : i < 2 ^ 16) (g : lt Z i = 101) (ro : (run (lt Z) pE (i + 1)).1 = true) (hv : vls (lt Z) i V) : TK F Z M r V t i := by
  have h7 := h.n7
  obtain ⟨v0, -, v3⟩ := hv
  obtain ⟨v1, v2, vt⟩ := v3 g
  have o1 : okc 0 (lt Z (i + 1)) = true := run_at _ _ _ ro 0 0 rfl
  have o2 : okc 0 (lt Z (i + 2)) = true := run_at _ _ _ ro 1 0 rfl
  have o3 : okc 1 (lt Z (i + 3)) = true := run_at _ _ _ ro 2 1 rfl
  have o4 : okc 0 (lt Z (i + 4)) = true := run_at _ _ _ ro 3 0 rfl
  have ot : ∀ d, d < 7 → okc 0 (lt Z (i + 5 + d)) = true := by
    intro d hd
    have := run_at _ _ _ ro (4 + d) 0 (by
      have : ∀ d, d < 7 → pE[4 + d]? = some 0 := by decide
      exact this d hd)
    rw [show i + 1 + (4 + d) = i + 5 + d by omega] at this
    exact this
  have hk := okc1 o3
  have hb := nm_le (g := lt Z) (i := i + 1) o1 o2
  have f4 := okc0 o4
  have t9 : ∀ d, d < 7 → tu (lt Z) i d ≤ 9 := fun d hd => by have := okc0 (ot d hd); unfold tu; omega
  unfold TK
  rw [f_X1_takes, nI_1, ob_eq (x_num2 hL (by omega) o1 o2), ob_eq (x_numbered h (by omega)), ob_eq (x_sign hL (by omega)), g, show sgn 101 = 101 from rfl, if_pos rfl, f_X6_comes, if_pos rfl, show (mK M r V t).2.2.2.2.2.2.1 0 = nI (nm (lt Z) (i + 1)) from v0, zL10, zif (nI_ltI (a := nm (lt Z) (i + 1)) (b := 10) (by omega) (by omega)), ob_eq (m_numbered (P := mK M r V t) hs h (by omega))]
  rcases fi_cases (fun e => nu F e == nm (lt Z) (i + 1)) (nE F) 0 with q | ⟨e, e1, e2, e3, e4⟩
  · rw [show nx F (nm (lt Z) (i + 1)) = -9 from q, if_pos rfl, if_neg (show ¬ (0 : Int32) ≤ -9 by decide), show (mK M r V t).2.2.2.1 0 = nI (nE F) by rw [← h.size]; exact hs.1, f_X1_takesEngine, nI_1, ob_eq (x_num2 hL (by omega) o1 o2), h.size, zL7, zif (nI_leI (a := 7) (b := nE F) (by omega) (by omega)), zif (zeq (a := nE F) (b := 7) (by omega) (by omega)), zL10, zif (nI_ltI (a := nm (lt Z) (i + 1)) (b := 10) (by omega) (by omega))]
    by_cases g1 : 7 ≤ nE F
    · rw [if_pos g1, if_pos (by omega : nE F = 7), f_X1_takesEngine_b29, f_X6_comes_b41]
      refine ⟨F, r, false, rfl, ?_, fun z => absurd z Bool.false_ne_true⟩
      split <;> rfl
    · rw [if_neg g1, if_neg (by omega : ¬ nE F = 7)]
      by_cases g2 : nm (lt Z) (i + 1) < 10
      · rw [if_pos g2, if_pos g2, f_X1_takesEngine_b29, f_X6_comes_b41]
        exact ⟨F, r, false, rfl, rfl, fun z => absurd z Bool.false_ne_true⟩
      · obtain ⟨F', x1, x2⟩ := x_eng_loop (b := nm (lt Z) (i + 1)) h (by omega) hL hi hk o4 ot 4096 0 F.2.2.2.2.1 (by omega) (by omega) (fun j _ => rfl) (fun k hk => absurd hk (by omega))
        have m1 := m_chk (P := mK M r V t) (t := tu (lt Z) i) (fun d hd => vt d hd) t9 4096 0 (by omega) (by omega)
        rw [if_neg g2, if_neg g2, zL99, if_pos ((nI_leI (by omega) (by omega)).mpr hb)]
        have x1' : f_X1_takesEngine_b34 Z 4096 F (nI i) (nI (nm (lt Z) (i + 1))) 0 = _ := x1
        have m1' : f_X6_comes_b45 4096 (mK M r V t) 3 = _ := m1
        rw [ob_eq x1', m1']
        by_cases g3 : al (fun d => okt (tu (lt Z) i d)) (7 - 0) 0 = true
        · rw [if_pos g3, if_pos g3, if_neg (show ¬ (1 : Int32) = 0 by decide)]
          obtain ⟨T', y1, y2, y3⟩ := x2 g3
          obtain ⟨r', w1, w2, w3⟩ := m_write M V t (v := 5 + 11 * nE F) (by omega) (by omega) 4096 0 (newR r V (5 + 11 * nE F)) (by omega) (by omega)
          rw [m_eng (F := F) (by rw [← h.size]; exact hs.1) (by omega), w1]
          have ok : ∀ d, d < 7 → okT (tu (lt Z) i d) := fun d hd => okt_ok (by have := al_split _ 7 0 g3 d hd; rw [Nat.zero_add] at this; exact this)
          have res := newF_sF (tt := tu (lt Z) i) h (by omega) hs v0 v1 v2 vt y2 y3 w2 w3
          refine ⟨F', r', true, rfl, rfl, fun _ => ?_⟩
          rw [y1]
          exact ⟨newF_WF (tt := tu (lt Z) i) h (by omega) ⟨by omega, hb⟩ (by omega) (by omega) y2 y3 ok, res.1, res.2⟩
        · rw [if_neg g3, if_neg g3, if_pos rfl, f_X1_takes_b79]
          exact ⟨F', r, false, rfl, rfl, fun z => absurd z Bool.false_ne_true⟩
  · rw [show nx F (nm (lt Z) (i + 1)) = nI e from e4, if_neg (zne9 (by omega)), if_pos (nI_pos' (by omega)), f_X1_takes_b79, f_X6_comes_b41]
    refine ⟨F, r, false, rfl, ?_, fun z => absurd z Bool.false_ne_true⟩
    split <;> rfl
theorem tk (h : WF F) (hs : sF F r) (hL : WL Z) (t : Int32) {i : Nat} (hi : i < 2 ^ 16) (ro : (stm (lt Z) i).1 = true) (hv : vls (lt Z) i V) : TK F Z M r V t i := by
  obtain ⟨a, b, -, -⟩ := stm_ok ro
  rcases pat_cases (lt Z i) with q | ⟨p, q⟩ | ⟨p, q⟩ | ⟨p, q⟩ | ⟨p, q⟩
  · exact absurd q a
  · rw [q] at b
    exact tk_e h hs hL t hi p b hv
  · rw [q] at b
    exact tk_j h hs hL t hi p (run_at _ _ _ b 0 0 rfl) (run_at _ _ _ b 1 0 rfl) (run_at _ _ _ b 2 0 rfl) (run_at _ _ _ b 3 0 rfl) hv.1 (hv.2.1 p)
  · rw [q] at b
    exact tk_u h hs hL t hi p (run_at _ _ _ b 0 0 rfl) (run_at _ _ _ b 1 0 rfl) hv.1
  · rw [q] at b
    exact tk_f h hs hL t hi p (run_at _ _ _ b 0 0 rfl) (run_at _ _ _ b 1 0 rfl) hv.1
end E
