/-! the calls, one by one: plan, await, chase, ever, all, reading, forget -/
/-- equal answers of two that change nothing -/
def BV (x m : Option Int32) : Prop := ∃ v, x = some v ∧ m = some v
theorem ob_idv (x : Option Int32) : (x.bind fun r => some r) = x := by
  cases x <;> rfl
/-- below 0, not below n, or in between -/
theorem isIn3 (p N : Int32) {n : Nat} (hN : N = nI n) (hn : n < 2 ^ 31) : (∃ e, e < n ∧ p = nI e ∧ ¬ p < 0 ∧ p < N ∧ f_X6_isIn p N = some 1) ∨ (p < 0 ∧ f_X6_isIn p N = some 0) ∨ (¬ p < 0 ∧ ¬ p < N ∧ f_X6_isIn p N = some 0) := by
  subst hN
  rcases zcase p with q | ⟨e, he, rfl⟩
  · exact Or.inr (Or.inl ⟨q, by rw [f_X6_isIn, if_pos q, f_X6_isIn_b13]⟩)
  · by_cases g : e < n
    · exact Or.inl ⟨e, g, rfl, zn_neg he, (nI_ltI he hn).mpr g, by rw [f_X6_isIn, if_neg (zn_neg he), if_neg (fun z => absurd ((nI_leI hn he).mp z) (by omega))]⟩
    · exact Or.inr (Or.inr ⟨zn_neg he, fun z => g ((nI_ltI he hn).mp z), by rw [f_X6_isIn, if_neg (zn_neg he), if_pos ((nI_leI hn he).mpr (by omega)), f_X6_isIn_b13]⟩)
/-- a book with a reading more -/
def addB (B : ST_X0) (d p m b : Nat) : ST_X0 := (upd B.1 (nB B) (nI d), upd B.2.1 (nB B) (nI p), upd B.2.2.1 (nB B) (nI m), upd B.2.2.2.1 (nB B) (nI b), nI (nB B + 1))
def addS (s : Nat → Int32) (k d p m b : Nat) : Nat → Int32 := upd (upd (upd (upd s (82 + 4 * k) (nI d)) (82 + 4 * k + 1) (nI p)) (82 + 4 * k + 2) (nI m)) (82 + 4 * k + 3) (nI b)
theorem addB_n {B : ST_X0} (d p m b : Nat) (hk : nB B < 12) : nB (addB B d p m b) = nB B + 1 := zclamp (show nB B + 1 < 2 ^ 31 by omega)
theorem addB_WB {B : ST_X0} (h : WB B) (hk : nB B < 12) {d p m b : Nat} (hd : d ≤ 1100) (hp : p < 5) (hm : 10 ≤ m ∧ m ≤ 99) (hb : b < 4) : WB (addB B d p m b) := by
  have e := addB_n d p m b hk
  refine ⟨⟨by rw [e]; rfl, by rw [e]; omega⟩, ?_⟩
  rw [e]
  intro i hi
  by_cases g : i = nB B
  · subst g
    have a1 : (addB B d p m b).1 (nB B) = nI d := pk_us
    have a2 : (addB B d p m b).2.1 (nB B) = nI p := pk_us
    have a3 : (addB B d p m b).2.2.1 (nB B) = nI m := pk_us
    have a4 : (addB B d p m b).2.2.2.1 (nB B) = nI b := pk_us
    rw [bd, bp, bn, bb, a1, a2, a3, a4, zclamp (by omega), zclamp (by omega), zclamp (by omega), zclamp (by omega)]
    exact ⟨⟨rfl, hd⟩, ⟨rfl, hp⟩, ⟨rfl, hm⟩, ⟨rfl, hb⟩⟩
  · have a1 : (addB B d p m b).1 i = B.1 i := pk_un g
    have a2 : (addB B d p m b).2.1 i = B.2.1 i := pk_un g
    have a3 : (addB B d p m b).2.2.1 i = B.2.2.1 i := pk_un g
    have a4 : (addB B d p m b).2.2.2.1 i = B.2.2.2.1 i := pk_un g
    have := h.2 i (by omega)
    rw [bd, bp, bn, bb] at this
    rw [bd, bp, bn, bb, a1, a2, a3, a4]
    exact this
theorem addS_old {s : Nat → Int32} {k d p m b j : Nat} (h : j < 82 + 4 * k) : addS s k d p m b j = s j := by
  rw [addS, pk_un (by omega), pk_un (by omega), pk_un (by omega), pk_un (by omega)]
theorem addS_new {s : Nat → Int32} {k d p m b : Nat} : addS s k d p m b (82 + 4 * k) = nI d ∧ addS s k d p m b (82 + 4 * k + 1) = nI p ∧ addS s k d p m b (82 + 4 * k + 2) = nI m ∧ addS s k d p m b (82 + 4 * k + 3) = nI b := by
  refine ⟨?_, ?_, ?_, ?_⟩
  · rw [addS, pk_un (by omega), pk_un (by omega), pk_un (by omega), pk_us]
  · rw [addS, pk_un (by omega), pk_un (by omega), pk_us]
  · rw [addS, pk_un (by omega), pk_us]
  · rw [addS, pk_us]
theorem addS_sB {B : ST_X0} {s : Nat → Int32} (hs : sB B s) (hk : nB B < 12) (d p m b : Nat) : sB (addB B d p m b) (upd (addS s (nB B) d p m b) 4 (nI (nB B + 1))) := by
  refine ⟨pk_us, ?_⟩
  rw [addB_n d p m b hk]
  intro i hi
  rw [pk_un (by omega), pk_un (by omega), pk_un (by omega), pk_un (by omega)]
  by_cases g : i = nB B
  · subst g
    obtain ⟨n1, n2, n3, n4⟩ := addS_new (s := s) (k := nB B) (d := d) (p := p) (m := m) (b := b)
    rw [n1, n2, n3, n4]
    exact ⟨pk_us.symm, pk_us.symm, pk_us.symm, pk_us.symm⟩
  · rw [addS_old (by omega), addS_old (by omega), addS_old (by omega), addS_old (by omega)]
    obtain ⟨g1, g2, g3, g4⟩ := hs.2 i (by omega)
    exact ⟨g1.trans (pk_un g).symm, g2.trans (pk_un g).symm, g3.trans (pk_un g).symm, g4.trans (pk_un g).symm⟩
theorem addS_sF {F : ST_X1} {s : Nat → Int32} (h7 : nE F ≤ 7) (hs : sF F s) (k d p m b : Nat) (v : Int32) : sF F (upd (addS s k d p m b) 4 v) := sF_low h7 hs (fun j h1 _ h4 => by rw [pk_un h4, addS_old (by omega)])
/-- a book without the latest -/
def popB (B : ST_X0) (k : Nat) : ST_X0 := (B.1, B.2.1, B.2.2.1, B.2.2.2.1, nI k)
theorem popB_n {B : ST_X0} {k : Nat} (hk : k < 12) : nB (popB B k) = k := zclamp (by omega)
theorem popB_WB {B : ST_X0} (h : WB B) {k : Nat} (hk : k < 12) (hn : k ≤ nB B) : WB (popB B k) := by
  refine ⟨⟨by rw [popB_n hk]; rfl, by rw [popB_n hk]; omega⟩, ?_⟩
  rw [popB_n hk]
  intro i hi
  exact h.2 i (by omega)
theorem popB_sB {B : ST_X0} {s : Nat → Int32} (hs : sB B s) {k : Nat} (hk : k < 12) (hn : k ≤ nB B) : sB (popB B k) (upd s 4 (nI k)) := by
  refine ⟨pk_us, ?_⟩
  rw [popB_n hk]
  intro i hi
  rw [pk_un (by omega), pk_un (by omega), pk_un (by omega), pk_un (by omega)]
  exact hs.2 i (by omega)
section C
variable {X : ST_X5} {M : ST_X6}
theorem rr_plan (h : RR X M) (P : ST_X3) (T B : Nat → Int32) (v : Int32) : RR (X.1, X.2.1, X.2.2.1, X.2.2.2.1, X.2.2.2.2.1, P, X.2.2.2.2.2.2.1, X.2.2.2.2.2.2.2.1, X.2.2.2.2.2.2.2.2) (mP M T B v) := by
  obtain ⟨hL, hT, h3, h4, h5, h6, h7⟩ := h
  exact ⟨hL, ⟨hT.1, hT.2⟩, h3, h4, h5, h6, h7⟩
theorem b_plan (h : RR X M) (p q i : Int32) : BC (f_X5_plan X p q i) (f_X6_plan M p q i) := by
  have h0 := h
  obtain ⟨hL, hT, ⟨w1, w2, w3, w4, t, t1, t2, t3⟩, h4, h5, h6, h7⟩ := h
  rw [f_X5_plan, f_X6_plan]
  by_cases a1 : p < 1
  · rw [if_pos a1, if_pos a1, f_X5_plan_b14, f_X6_plan_b14, f_X6_plan_b36, if4m0]
    exact bc_r4 h0
  rw [if_neg a1, if_neg a1]
  by_cases a2 : q < 0
  · rw [if_pos a2, if_pos a2, f_X5_plan_b14, f_X6_plan_b14, f_X6_plan_b36, if4m0]
    exact bc_r4 h0
  rw [if_neg a2, if_neg a2]
  by_cases a3 : -1 ≤ i
  · rw [if_pos a3, if_pos a3]
    by_cases a4 : 5 < p
    · rw [if_pos a4, if_pos a4, f_X5_plan_b32, f_X6_plan_b30, f_X6_plan_b36, if6m0]
      exact bc_r6 h0
    rw [if_neg a4, if_neg a4]
    by_cases a5 : q ≤ 20
    · rw [if_pos a5, if_pos a5, f_X6_plan_b36, if00]
      by_cases a6 : i < p
      · rw [if_pos a6, if_pos a6]
        rcases zcase p with z | ⟨n, hn, rfl⟩
        · exact absurd (zneg_le z (k := 1) (by omega)) a1
        rcases zcase q with z | ⟨c, hc, rfl⟩
        · exact absurd z a2
        have n5 : n ≤ 5 := Nat.le_of_not_lt (fun z => a4 ((nI_ltI (a := 5) (by omega) hn).mpr z))
        have c20 : c ≤ 20 := (nI_leI (b := 20) hc (by omega)).mp a5
        obtain ⟨P', s1, s2, s3⟩ := x_search w1 t2 (by omega) n5 c20 X.2.2.2.2.2.1
        obtain ⟨T, B, m1, m2⟩ := m_finds w2 w1 t3 (by omega) n5 c20
        rw [ob_eq s1, ob_eq m1]
        by_cases a7 : 0 ≤ i
        · rw [if_pos a7, if_pos a7]
          rcases zcase i with z | ⟨j, hj, rfl⟩
          · exact absurd a7 (zneg_le' z (k := 0) (by omega))
          have jn : j < n := (nI_ltI hj hn).mp a6
          rw [if_pos (zin (n := 5) (by omega) (by omega)), if_pos (zin (n := 5) (by omega) (by omega)), zclamp hj]
          refine ⟨nI ((pb X.2.1.1 t n c).1 j), _, mP M T B (pb X.2.1.1 t n c).2, ?_, ?_, rr_plan h0 P' T B _⟩
          · rw [s3 j jn]
          · show some (B j, mP M T B (pb X.2.1.1 t n c).2) = _
            rw [m2 j jn]
        · rw [if_neg a7, if_neg a7, s2]
          exact ⟨_, _, mP M T B (pb X.2.1.1 t n c).2, rfl, rfl, rr_plan h0 P' _ _ _⟩
      · rw [if_neg a6, if_neg a6]
        exact ⟨_, _, _, rfl, rfl, h0⟩
    · rw [if_neg a5, if_neg a5, f_X5_plan_b32, f_X6_plan_b30, f_X6_plan_b36, if6m0]
      exact bc_r6 h0
  · rw [if_neg a3, if_neg a3, f_X5_plan_b14, f_X6_plan_b14, f_X6_plan_b36, if4m0]
    exact bc_r4 h0
theorem b_await (h : RR X M) (p q : Int32) : BC (f_X5_await X p q) (f_X6_await M p q) := by
  have h0 := h
  obtain ⟨hL, hT, ⟨w1, w2, w3, w4, t, t1, t2, t3⟩, h4, h5, h6, h7⟩ := h
  rw [f_X5_await, f_X6_await]
  rcases eng_cases w1 w2 p with ⟨e, he, rfl, k1, k2⟩ | ⟨k1, k2⟩
  · rw [ob_eq k1, if10, ob_eq k2, if10]
    rcases place_cases q with ⟨n, hn, rfl, l1, l2⟩ | ⟨l1, l2⟩
    · rw [ob_eq l1, if10, ob_eq (x_await w1 t2 (by omega) he (by omega)), ob_eq l2, if10]
      exact bc_same h0 rfl (m_await w2 w1 t3 (by omega) he (by omega))
    · rw [ob_eq l1, if00, ob_eq l2, if00, f_X5_await_b21, f_X6_await_b15]
      exact bc_r1 h0
  · rw [ob_eq k1, if00, ob_eq k2, if00, f_X5_await_b21, f_X6_await_b15]
    exact bc_r1 h0
theorem b_chase (h : RR X M) (p : Int32) : BC (f_X5_chase X p) (f_X6_chase M p) := by
  have h0 := h
  obtain ⟨hL, hT, ⟨w1, w2, w3, w4, t, t1, t2, t3⟩, h4, h5, h6, h7⟩ := h
  rw [f_X5_chase, f_X6_chase]
  rcases eng_cases w1 w2 p with ⟨e, he, rfl, k1, k2⟩ | ⟨k1, k2⟩
  · rw [ob_eq k1, if10, ob_eq k2, if10, ob_eq (x_chase w1 t2 (by omega) he)]
    exact bc_same h0 rfl (m_chase w2 w1 t3 (by omega) he)
  · rw [ob_eq k1, if00, ob_eq k2, if00]
    exact bc_r1 h0
theorem b_ever (h : RR X M) : BV (f_X5_ever X) (f_X6_ever M) := by
  obtain ⟨hL, hT, ⟨w1, w2, w3, w4, t, t1, t2, t3⟩, h4, h5, h6, h7⟩ := h
  rw [f_X5_ever, ob_eq (x_ever w1 t2 (by omega))]
  exact ⟨_, rfl, m_ever w2 w1 t3 (by omega)⟩
theorem all_loop (g : Int32) : ∀ k fu n (X : ST_X5) (M : ST_X6), RR X M → n + k = 6 → k < fu → BC (f_X5_all_b19 fu X g (nI n)) (f_X6_all_b13 fu M g (nI n)) := by
  intro k
  induction k with
  | zero =>
    intro fu n X M h hn hk
    obtain ⟨fu, rfl⟩ : ∃ f, fu = f + 1 := ⟨fu - 1, by omega⟩
    have g5 : (5 : Int32) < nI n := (nI_ltI (a := 5) (by omega) (by omega)).mpr (by omega)
    rw [f_X5_all_b19, if_pos g5, f_X6_all_b13, if_pos g5]
    exact ⟨_, _, _, rfl, rfl, h⟩
  | succ k ih =>
    intro fu n X M h hn hk
    obtain ⟨fu, rfl⟩ : ∃ f, fu = f + 1 := ⟨fu - 1, by omega⟩
    have h0 := h
    obtain ⟨hL, hT, ⟨w1, w2, w3, w4, t, t1, t2, t3⟩, h4, h5, h6, h7⟩ := h
    have g5 : ¬ (5 : Int32) < nI n := fun z => absurd ((nI_ltI (a := 5) (by omega) (by omega)).mp z) (by omega)
    obtain ⟨P', s1, s2, s3⟩ := x_search w1 t2 (by omega) (n := n) (by omega) (c := 20) (by omega) X.2.2.2.2.2.1
    obtain ⟨T, B, m1, m2⟩ := m_finds w2 w1 t3 (by omega) (n := n) (by omega) (c := 20) (by omega)
    have s1' : f_X3_search X.2.2.2.2.2.1 X.2.1 (nI n) 20 = some P' := s1
    have m1' : f_X6_findsPlan M (nI n) 20 = some (mP M T B (pb X.2.1.1 t n 20).2) := m1
    have v1 : (mP M T B (pb X.2.1.1 t n 20).2).2.2.2.2.2.2.2.2.2.2.2.1 = (pb X.2.1.1 t n 20).2 := rfl
    have r := rr_plan h0 P' T B (pb X.2.1.1 t n 20).2
    rw [f_X5_all_b19, if_neg g5, f_X6_all_b13, if_neg g5, ob_eq s1', ob_eq m1', s2, v1, nI_1]
    by_cases e : (pb X.2.1.1 t n 20).2 = g
    · rw [if_pos e, if_pos e]
      exact ⟨_, _, _, rfl, rfl, r⟩
    · rw [if_neg e, if_neg e]
      exact ih fu (n + 1) _ _ r (by omega) (by omega)
theorem b_all (h : RR X M) : BC (f_X5_all X) (f_X6_all M) := by
  have h0 := h
  obtain ⟨hL, hT, ⟨w1, w2, w3, w4, t, t1, t2, t3⟩, h4, h5, h6, h7⟩ := h
  rw [f_X5_all, f_X6_all, ob_eq (x_worthOfAllNew w1), ob_eq (m_allNew w2 w1)]
  by_cases g : nI (wv X.2.1.1 (nw X.2.1.1 (uL X.2.1.1) 127)) = 0
  · rw [if_pos g, if_pos g]
    exact ⟨_, _, _, rfl, rfl, h0⟩
  · rw [if_neg g, if_neg g]
    exact all_loop _ 5 4096 1 X M h0 (by omega) (by omega)
theorem b_reading (h : RR X M) (p q m b : Int32) : BC (f_X5_reading X p q m b) (f_X6_reading M p q m b) := by
  have h0 := h
  obtain ⟨hL, hT, ⟨w1, w2, w3, w4, t, t1, t2, t3⟩, h4, h5, h6, h7⟩ := h
  rw [f_X5_reading, f_X6_reading]
  rcases place_cases q with ⟨e, he, rfl, k1, k2⟩ | ⟨k1, k2⟩
  · rw [ob_eq k1, if10, ob_eq k2, if10]
    rcases isIn3 b 4 (n := 4) rfl (by omega) with ⟨y, hy, rfl, y1, y2, y3⟩ | ⟨y1, y3⟩ | ⟨y1, y2, y3⟩
    · rw [if_neg y1, if_pos y2, ob_eq y3, if10]
      by_cases a1 : p < 0
      · rw [if_pos a1, if_pos a1, f_X5_reading_b34, f_X6_reading_b30, f_X6_reading_b65, if4m0]
        exact bc_r4 h0
      rw [if_neg a1, if_neg a1]
      by_cases a2 : 10 ≤ m
      · rw [if_pos a2, if_pos a2]
        by_cases a3 : 1100 < p
        · rw [if_pos a3, if_pos a3, f_X5_reading_b72, f_X6_reading_b59, f_X6_reading_b65, if6m0]
          exact bc_r6 h0
        rw [if_neg a3, if_neg a3]
        by_cases a4 : 99 < m
        · rw [if_pos a4, if_pos a4, f_X5_reading_b72, f_X6_reading_b59, f_X6_reading_b65, if6m0]
          exact bc_r6 h0
        rw [if_neg a4, if_neg a4]
        rcases zcase p with z | ⟨d, hd, rfl⟩
        · exact absurd z a1
        rcases zcase m with z | ⟨u, hu, rfl⟩
        · exact absurd a2 (zneg_le' z (k := 10) (by omega))
        have d1 : d ≤ 1100 := Nat.le_of_not_lt (fun z => a3 ((nI_ltI (a := 1100) (by omega) hd).mpr z))
        have u1 : 10 ≤ u := (nI_leI (a := 10) (by omega) hu).mp a2
        have u2 : u ≤ 99 := Nat.le_of_not_lt (fun z => a4 ((nI_ltI (a := 99) (by omega) hu).mpr z))
        have n12 := w3.1.2
        have sz : M.2.1 4 = nI (nB X.2.1.2.1) := w4.1.trans w3.1.1
        rw [f_X0_add, w3.1.1, sz]
        by_cases g : nB X.2.1.2.1 < 12
        · have ib : inB (nI (nB X.2.1.2.1)) 12 := zin g (by omega)
          have e1 : (82 : Int32) + 4 * nI (nB X.2.1.2.1) = nI (82 + 4 * nB X.2.1.2.1) := by rw [zL82, zL4, pk_mul, nI_add]
          have e2 : nI (82 + 4 * nB X.2.1.2.1) + 2 = nI (82 + 4 * nB X.2.1.2.1 + 2) := nI_add _ 2
          have e3 : nI (82 + 4 * nB X.2.1.2.1) + 3 = nI (82 + 4 * nB X.2.1.2.1 + 3) := nI_add _ 3
          rw [if_pos (show nI (nB X.2.1.2.1) < (12 : Int32) from (nI_ltI (b := 12) (by omega) (by omega)).mpr g), if_pos ib, if_pos ib, if_pos ib, if_pos ib, ob_eq rfl, if10, zclamp (by omega), nI_1, if_neg (show ¬ nI (nB X.2.1.2.1) = (12 : Int32) from fun z => absurd ((zeq (b := 12) (by omega) (by omega)).mp z) (by omega)), f_X6_reading_b65, if00, sz, e1, nI_1, e2, e3, if_pos (zin (by omega) (by omega)), if_pos (zin (by omega) (by omega)), if_pos (zin (by omega) (by omega)), if_pos (zin (by omega) (by omega)), zclamp (by omega), zclamp (by omega), zclamp (by omega), zclamp (by omega)]
          have v : addS M.2.1 (nB X.2.1.2.1) d e u y 4 + 1 = nI (nB X.2.1.2.1 + 1) := by rw [addS_old (by omega), sz, nI_1]
          have y4 : upd (addS M.2.1 (nB X.2.1.2.1) d e u y) 4 (addS M.2.1 (nB X.2.1.2.1) d e u y 4 + 1) 4 = nI (nB X.2.1.2.1 + 1) := pk_us.trans v
          have rw' : RW (X.2.1.1, addB X.2.1.2.1 d e u y, X.2.1.2.2) (upd (addS M.2.1 (nB X.2.1.2.1) d e u y) 4 (addS M.2.1 (nB X.2.1.2.1) d e u y 4 + 1)) := by
            rw [v]
            exact ⟨w1, addS_sF w1.n7 w2 _ _ _ _ _ _, addB_WB w3 g d1 he ⟨u1, u2⟩ hy, addS_sB w4 g _ _ _ _, t, t1, t2, by rw [pk_un (by omega), addS_old (by omega), t3]⟩
          exact ⟨nI (nB X.2.1.2.1 + 1), (X.1, (X.2.1.1, addB X.2.1.2.1 d e u y, X.2.1.2.2), X.2.2), (M.1, upd (addS M.2.1 (nB X.2.1.2.1) d e u y) 4 (addS M.2.1 (nB X.2.1.2.1) d e u y 4 + 1), M.2.2), rfl, congrArg (fun z => some (z, (M.1, upd (addS M.2.1 (nB X.2.1.2.1) d e u y) 4 (addS M.2.1 (nB X.2.1.2.1) d e u y 4 + 1), M.2.2))) y4, hL, ⟨hT.1, hT.2⟩, rw', h4, h5, h6, h7⟩
        · rw [if_neg (show ¬ nI (nB X.2.1.2.1) < (12 : Int32) from fun z => g ((nI_ltI (b := 12) (by omega) (by omega)).mp z)), ob_eq rfl, if00, if_pos (show nI (nB X.2.1.2.1) = (12 : Int32) from (zeq (b := 12) (by omega) (by omega)).mpr (by omega)), f_X5_reading_b72, f_X6_reading_b59, f_X6_reading_b65, if6m0]
          exact bc_r6 h0
      · rw [if_neg a2, if_neg a2, f_X5_reading_b34, f_X6_reading_b30, f_X6_reading_b65, if4m0]
        exact bc_r4 h0
    · rw [if_pos y1, ob_eq y3, if00, f_X5_reading_b18, f_X6_reading_b16, f_X6_reading_b65, if1m0]
      exact bc_r1 h0
    · rw [if_neg y1, if_neg y2, ob_eq y3, if00, f_X5_reading_b18, f_X6_reading_b16, f_X6_reading_b65, if1m0]
      exact bc_r1 h0
  · rw [ob_eq k1, if00, ob_eq k2, if00, f_X5_reading_b18, f_X6_reading_b16, f_X6_reading_b65, if1m0]
    exact bc_r1 h0
theorem b_forget (h : RR X M) : BC (f_X5_forget X) (f_X6_forget M) := by
  have h0 := h
  obtain ⟨hL, hT, ⟨w1, w2, w3, w4, t, t1, t2, t3⟩, h4, h5, h6, h7⟩ := h
  have n12 := w3.1.2
  have sz : M.2.1 4 = nI (nB X.2.1.2.1) := w4.1.trans w3.1.1
  rw [f_X5_forget, f_X6_forget, w3.1.1, sz]
  by_cases g : nB X.2.1.2.1 = 0
  · have g0 : nI (nB X.2.1.2.1) = (0 : Int32) := by rw [g]; rfl
    rw [if_pos g0, if_pos g0]
    exact bc_r3 h0
  · have g0 : ¬ nI (nB X.2.1.2.1) = (0 : Int32) := fun z => g ((zeq (b := 0) (by omega) (by omega)).mp z)
    obtain ⟨k, hk⟩ : ∃ k, nB X.2.1.2.1 = k + 1 := ⟨nB X.2.1.2.1 - 1, by omega⟩
    have nk : nI (nB X.2.1.2.1) - 1 = nI k := by rw [hk]; exact nI_pred k
    rw [if_neg g0, if_neg g0, nk, pk_us]
    exact ⟨nI k, _, _, rfl, rfl, hL, ⟨hT.1, hT.2⟩, ⟨w1, sF_low w1.n7 w2 (fun j _ _ j4 => by show upd M.2.1 4 _ j = _; rw [pk_un j4]), popB_WB w3 (k := k) (by omega) (by omega), popB_sB (B := X.2.1.2.1) (k := k) w4 (by omega) (by omega), t, t1, t2, t3⟩, h4, h5, h6, h7⟩
end C
