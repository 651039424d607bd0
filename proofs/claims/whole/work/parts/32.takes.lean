/-! a statement comes to be -/
theorem fi_cases (q : Nat → Bool) : ∀ k j, fi q k j = -9 ∨ ∃ e, j ≤ e ∧ e < j + k ∧ q e = true ∧ fi q k j = nI e := by
  intro k
  induction k with
  | zero => intro j; exact Or.inl rfl
  | succ k ih =>
    intro j
    rw [fi]
    by_cases g : q j = true
    · rw [if_pos g]; exact Or.inr ⟨j, Nat.le_refl _, by omega, g, rfl⟩
    · rw [if_neg g]
      rcases ih (j + 1) with h | ⟨e, h1, h2, h3, h4⟩
      · exact Or.inl h
      · exact Or.inr ⟨e, by omega, by omega, h3, h4⟩
theorem run_at (g : Nat → Nat) (p : List Nat) : ∀ i, (run g p i).1 = true → ∀ k c, p[k]? = some c → okc c (g (i + k)) = true := by
  induction p with
  | nil => intro i _ k c h; simp at h
  | cons x xs ih =>
    intro i r k c h
    rw [run] at r
    by_cases q : okc x (g i) = true
    · rw [if_pos q] at r
      cases k with
      | zero => rw [List.getElem?_cons_zero] at h; cases h; exact q
      | succ k =>
        rw [List.getElem?_cons_succ] at h
        have := ih (i + 1) r k c h
        rw [show i + 1 + k = i + (k + 1) by omega] at this
        exact this
    · rw [if_neg q] at r; cases r
/-- where a number stands among the engines, or -9 -/
def nx (F : ST_X1) (b : Nat) : Int32 := fi (fun e => nu F e == b) (nE F) 0
section T
variable {F : ST_X1} {Z : ST_X2} {M : ST_X6} {r V : Nat → Int32}
theorem x_numbered_loop (h : WF F) {b : Nat} (hb : b < 2 ^ 31) : ∀ fu i, i ≤ nE F → nE F - i < fu → f_X1_numbered_b2 F fu (nI b) (nI i) = some (fi (fun e => nu F e == b) (nE F - i) i) := by
  have h7 := h.n7
  intro fu
  induction fu with
  | zero => intro i h1 h2; omega
  | succ fu ih =>
    intro i h1 h2
    rw [f_X1_numbered_b2, h.size]
    by_cases q : i = nE F
    · rw [if_pos ((nI_leI (by omega) (by omega)).mpr (by omega)), q, Nat.sub_self]
      rfl
    · have hi : i < nE F := by omega
      have hk : nE F - i = (nE F - (i + 1)) + 1 := by omega
      have hn := (h.2.1 i hi).2
      rw [if_neg (fun z => absurd ((nI_leI (by omega) (by omega)).mp z) (by omega)), ob_eq (x_number h hi), zif (zeq (by omega) hb), hk, fi]
      by_cases g : nu F i = b
      · rw [if_pos g, if_pos (by simpa using g)]
      · rw [if_neg g, if_neg (by simpa using g), nI_1, ih (i + 1) (by omega) (by omega)]
theorem x_numbered (h : WF F) {b : Nat} (hb : b < 2 ^ 31) : f_X1_numbered F (nI b) = some (nx F b) := by
  have h7 := h.n7
  rw [f_X1_numbered]
  exact x_numbered_loop h hb 4096 0 (Nat.zero_le _) (by omega)
theorem m_numbered_loop {P : ST_X6} (hs : sF F P.2.2.2.1) (h : WF F) {b : Nat} (hb : b < 2 ^ 31) : ∀ fu i, i ≤ nE F → nE F - i < fu → f_X6_numbered_b2 P fu (nI b) (nI i) = some (fi (fun e => nu F e == b) (nE F - i) i) := by
  have h7 := h.n7
  intro fu
  induction fu with
  | zero => intro i h1 h2; omega
  | succ fu ih =>
    intro i h1 h2
    rw [f_X6_numbered_b2, hs.1, h.size]
    by_cases q : i = nE F
    · rw [if_pos ((nI_leI (by omega) (by omega)).mpr (by omega)), q, Nat.sub_self]
      rfl
    · have hi : i < nE F := by omega
      have hk : nE F - i = (nE F - (i + 1)) + 1 := by omega
      have hn := h.2.1 i hi
      rw [if_neg (fun z => absurd ((nI_leI (by omega) (by omega)).mp z) (by omega)), zL5, zL11, pk_mul, nI_add, if_pos (zin (by omega) (by omega)), zclamp (by omega), (hs.2.2.2 i hi).1, hn.1, zif (zeq (by omega) hb), hk, fi]
      by_cases g : nu F i = b
      · rw [if_pos g, if_pos (by simpa using g)]
      · rw [if_neg g, if_neg (by simpa using g), nI_1, ih (i + 1) (by omega) (by omega)]
theorem m_numbered {P : ST_X6} (hs : sF F P.2.2.2.1) (h : WF F) {b : Nat} (hb : b < 2 ^ 31) : f_X6_numbered P (nI b) = some (nx F b) := by
  have h7 := h.n7
  rw [f_X6_numbered]
  exact m_numbered_loop hs h hb 4096 0 (Nat.zero_le _) (by omega)
theorem x_dig (h : WL Z) {i : Nat} (hi : i < 2 ^ 30) (o : okc 0 (lt Z i) = true) : f_X2_digit Z (nI i) = some (nI (lt Z i - 48)) := by
  have a := okc0 o
  rw [f_X2_digit, ob_eq (x_sign h (by omega)), sgn_of (by omega), zL48, pk_sub (by omega)]
theorem x_num2 (h : WL Z) {i : Nat} (hi : i < 2 ^ 20) (o : okc 0 (lt Z i) = true) (o2 : okc 0 (lt Z (i + 1)) = true) : f_X2_number Z (nI i) = some (nI (nm (lt Z) i)) := by
  rw [f_X2_number, ob_eq (x_dig h (by omega) o), nI_1, ob_eq (x_dig h (by omega) o2), zL10, pk_mul, nI_add, nm]
theorem nm_le {g : Nat → Nat} {i : Nat} (o : okc 0 (g i) = true) (o2 : okc 0 (g (i + 1)) = true) : nm g i ≤ 99 := by
  have a := okc0 o
  have b := okc0 o2
  unfold nm
  omega
/-- what a statement leaves alone -/
def kp (r r' : Nat → Int32) : Prop := r' 1 = r 1 ∧ r' 4 = r 4 ∧ ∀ j, 82 ≤ j → r' j = r j
def TK (F : ST_X1) (Z : ST_X2) (M : ST_X6) (r V : Nat → Int32) (t : Int32) (i : Nat) : Prop :=
  ∃ F' r' b, (f_X1_takes F Z (nI i) = some (if b = true then 1 else 0, F')) ∧ (f_X6_comes (mK M r V t) (sgn (lt Z i)) = some (if b = true then 1 else 0, mK M r' V t)) ∧ (b = true → WF F' ∧ sF F' r' ∧ kp r r')
def setF (F : ST_X1) (L : Nat) : ST_X1 := (F.1, F.2.1, F.2.2.1, F.2.2.2.1, F.2.2.2.2.1, F.2.2.2.2.2.1, F.2.2.2.2.2.2.1, F.2.2.2.2.2.2.2.1, nI L)
theorem setF_WF (h : WF F) {L : Nat} (hL : L < 2 ^ nE F) : WF (setF F L) := by
  have := pow_le7 h.n7
  obtain ⟨h1, h2, h3, h4, h5, h6, h7, h8, h9⟩ := h
  refine ⟨h1, h2, h3, h4, h5, h6, h7, h8, ?_⟩
  rw [show fL (setF F L) = L from zclamp (by omega)]
  exact ⟨rfl, hL⟩
theorem setF_sF {s : Nat → Int32} (hs : sF F s) (L : Nat) : sF (setF F L) (upd s 3 (nI L)) := by
  obtain ⟨h1, h2, h3, h4⟩ := hs
  refine ⟨by rw [pk_un (by omega)]; exact h1, by rw [pk_un (by omega)]; exact h2, by rw [pk_us]; rfl, fun e he => ?_⟩
  obtain ⟨g1, g2, g3, g4, g5⟩ := h4 e he
  refine ⟨by rw [pk_un (by omega)]; exact g1, by rw [pk_un (by omega)]; exact g2, by rw [pk_un (by omega)]; exact g3, by rw [pk_un (by omega)]; exact g4, fun d hd => by rw [pk_un (by omega)]; exact g5 d hd⟩
theorem tk_u (h : WF F) (hs : sF F r) (hL : WL Z) (t : Int32) {i : Nat} (hi : i < 2 ^ 16) (g : lt Z i = 117) (o1 : okc 0 (lt Z (i + 1)) = true) (o2 : okc 0 (lt Z (i + 2)) = true) (v0 : V 0 = nI (nm (lt Z) (i + 1))) : TK F Z M r V t i := by
  have h7 := h.n7
  have hb := nm_le (g := lt Z) (i := i + 1) o1 o2
  have hU := h.2.2.2.2.2.2.2.1
  unfold TK
  rw [f_X1_takes, nI_1, ob_eq (x_num2 hL (by omega) o1 o2), ob_eq (x_numbered h (by omega)), ob_eq (x_sign hL (by omega)), g, show sgn 117 = 117 from rfl, if_neg (by decide), if_neg (by decide), if_neg (by decide), if_pos rfl, f_X6_comes, if_neg (by decide), show (mK M r V t).2.2.2.2.2.2.1 0 = nI (nm (lt Z) (i + 1)) from v0, ob_eq (m_numbered (P := mK M r V t) hs h (by omega))]
  rcases fi_cases (fun e => nu F e == nm (lt Z) (i + 1)) (nE F) 0 with q | ⟨e, e1, e2, e3, e4⟩
  · rw [show nx F (nm (lt Z) (i + 1)) = -9 from q, ob_eq (x_bit_neg F zm9_lt), if_pos rfl, if_neg (by decide)]
    exact ⟨_, r, false, rfl, rfl, fun z => absurd z Bool.false_ne_true⟩
  · have pe : 2 ^ e < 2 ^ nE F := Nat.pow_lt_pow_right (by omega) (by omega)
    rw [show nx F (nm (lt Z) (i + 1)) = nI e from e4, ob_eq (x_bit h (by omega)), if_neg (zne9 (by omega)), if_pos (nI_pos' (by omega)), if_pos rfl, zshl (by omega)]
    refine ⟨setU F (uL F ||| 2 ^ e), upd r 2 (nI (uL F ||| 2 ^ e)), true, ?_, ?_, fun _ => ⟨setU_WF h (Nat.or_lt_two_pow hU.2 pe), setU_sF hs _, ?_⟩⟩
    · rw [hU.1, zor]; rfl
    · show f_X6_comes_b221 (mK M (upd r 2 (r 2 ||| nI (2 ^ e))) V t) 117 (nI e) = _
      rw [f_X6_comes_b221, if_neg (by decide), f_X6_comes_b239, if_neg (by decide), hs.2.1, hU.1, zor]
      rfl
    · exact ⟨pk_un (by omega), pk_un (by omega), fun j hj => pk_un (by omega)⟩
theorem tk_f (h : WF F) (hs : sF F r) (hL : WL Z) (t : Int32) {i : Nat} (hi : i < 2 ^ 16) (g : lt Z i = 102) (o1 : okc 0 (lt Z (i + 1)) = true) (o2 : okc 0 (lt Z (i + 2)) = true) (v0 : V 0 = nI (nm (lt Z) (i + 1))) : TK F Z M r V t i := by
  have h7 := h.n7
  have hb := nm_le (g := lt Z) (i := i + 1) o1 o2
  have hU := h.2.2.2.2.2.2.2.2
  unfold TK
  rw [f_X1_takes, nI_1, ob_eq (x_num2 hL (by omega) o1 o2), ob_eq (x_numbered h (by omega)), ob_eq (x_sign hL (by omega)), g, show sgn 102 = 102 from rfl, if_neg (by decide), if_pos rfl, f_X6_comes, if_neg (by decide), show (mK M r V t).2.2.2.2.2.2.1 0 = nI (nm (lt Z) (i + 1)) from v0, ob_eq (m_numbered (P := mK M r V t) hs h (by omega))]
  rcases fi_cases (fun e => nu F e == nm (lt Z) (i + 1)) (nE F) 0 with q | ⟨e, e1, e2, e3, e4⟩
  · rw [show nx F (nm (lt Z) (i + 1)) = -9 from q, ob_eq (x_bit_neg F zm9_lt), if_pos rfl, if_neg (by decide)]
    exact ⟨_, r, false, rfl, rfl, fun z => absurd z Bool.false_ne_true⟩
  · have pe : 2 ^ e < 2 ^ nE F := Nat.pow_lt_pow_right (by omega) (by omega)
    rw [show nx F (nm (lt Z) (i + 1)) = nI e from e4, ob_eq (x_bit h (by omega)), if_neg (zne9 (by omega)), if_pos (nI_pos' (by omega)), if_neg (by decide), f_X6_comes_b221, if_pos rfl, zshl (by omega)]
    refine ⟨setF F (fL F ||| 2 ^ e), upd r 3 (nI (fL F ||| 2 ^ e)), true, ?_, ?_, fun _ => ⟨setF_WF h (Nat.or_lt_two_pow hU.2 pe), setF_sF hs _, ?_⟩⟩
    · rw [hU.1, zor]; rfl
    · show f_X6_comes_b239 (mK M (upd r 3 (r 3 ||| nI (2 ^ e))) V t) 102 (nI e) = _
      rw [f_X6_comes_b239, if_neg (by decide), hs.2.2.1, hU.1, zor]
      rfl
    · exact ⟨pk_un (by omega), pk_un (by omega), fun j hj => pk_un (by omega)⟩
def setJ (F : ST_X1) (e f : Nat) : ST_X1 := (F.1, F.2.1, F.2.2.1, upd (upd F.2.2.2.1 e (nI f)) f (nI e), F.2.2.2.2.1, F.2.2.2.2.2.1, F.2.2.2.2.2.2.1, F.2.2.2.2.2.2.2.1, F.2.2.2.2.2.2.2.2)
theorem setJ_WF (h : WF F) {e f : Nat} (he : e < nE F) (hf : f < nE F) (hn : e ≠ f) (je : F.2.2.2.1 e = -9) (jf : F.2.2.2.1 f = -9) : WF (setJ F e f) := by
  have n7 := h.n7
  have hjo : ∀ e, e < nE F → _ := fun e he => jo_facts h he
  obtain ⟨h1, h2, h3, h4, h5, h6, h7, h8, h9⟩ := h
  have J : ∀ x, (setJ F e f).2.2.2.1 x = if x = f then nI e else if x = e then nI f else F.2.2.2.1 x := by
    intro x
    show upd (upd F.2.2.2.1 e (nI f)) f (nI e) x = _
    by_cases q : x = f
    · rw [if_pos q, q, pk_us]
    · rw [if_neg q, pk_un q]
      by_cases q2 : x = e
      · rw [if_pos q2, q2, pk_us]
      · rw [if_neg q2, pk_un q2]
  have Jo : ∀ x, jo (setJ F e f) x = if x = f then e else if x = e then f else jo F x := by
    intro x
    unfold jo
    rw [J]
    by_cases q : x = f
    · simp only [if_pos q]; rw [if_neg (zne9 (by omega)), zclamp (by omega)]
    · simp only [if_neg q]
      by_cases q2 : x = e
      · simp only [if_pos q2]; rw [if_neg (zne9 (by omega)), zclamp (by omega)]
      · simp only [if_neg q2]
  refine ⟨h1, h2, h3, h4, fun x hx => ?_, h6, h7, h8, h9⟩
  obtain ⟨a1, a2, a3, a4⟩ := hjo x hx
  have hx' : x < nE F := hx
  rw [Jo x, J x]
  by_cases q : x = f
  · rw [if_pos q, if_pos q]
    refine ⟨Or.inr ⟨rfl, by omega⟩, he, ?_⟩
    rw [Jo e, if_neg hn, if_pos rfl, q]
  · rw [if_neg q, if_neg q]
    by_cases q2 : x = e
    · rw [if_pos q2, if_pos q2]
      refine ⟨Or.inr ⟨rfl, by omega⟩, hf, ?_⟩
      rw [Jo f, if_pos rfl, q2]
    · rw [if_neg q2, if_neg q2]
      have z1 : jo F x ≠ f := fun z => q (by
        have b := (hjo f hf).2.2.1 jf
        rw [← z] at b
        rw [a2] at b
        rw [b, z])
      have z2 : jo F x ≠ e := fun z => q2 (by
        have b := (hjo e he).2.2.1 je
        rw [← z] at b
        rw [a2] at b
        rw [b, z])
      refine ⟨?_, a1, ?_⟩
      · by_cases w : F.2.2.2.1 x = -9
        · exact Or.inl w
        · exact Or.inr (a4 w)
      · rw [Jo, if_neg z1, if_neg z2, a2]
theorem setJ_sF (h : WF F) {s : Nat → Int32} (hs : sF F s) {e f : Nat} (he : e < nE F) (hf : f < nE F) : sF (setJ F e f) (upd (upd s (5 + 11 * e + 3) (nI f)) (5 + 11 * f + 3) (nI e)) := by
  obtain ⟨h1, h2, h3, h4⟩ := hs
  refine ⟨by rw [pk_un (by omega), pk_un (by omega)]; exact h1, by rw [pk_un (by omega), pk_un (by omega)]; exact h2, by rw [pk_un (by omega), pk_un (by omega)]; exact h3, fun x hx => ?_⟩
  obtain ⟨g1, g2, g3, g4, g5⟩ := h4 x hx
  refine ⟨by rw [pk_un (by omega), pk_un (by omega)]; exact g1, by rw [pk_un (by omega), pk_un (by omega)]; exact g2, by rw [pk_un (by omega), pk_un (by omega)]; exact g3, ?_, fun d hd => by rw [pk_un (by omega), pk_un (by omega)]; exact g5 d hd⟩
  show _ = upd (upd F.2.2.2.1 e (nI f)) f (nI e) x
  by_cases q : x = f
  · rw [q, pk_us, pk_us]
  · rw [pk_un (by omega), pk_un q]
    by_cases q2 : x = e
    · rw [q2, pk_us, pk_us]
    · rw [pk_un (by omega), pk_un q2, g4]
theorem tk_j (h : WF F) (hs : sF F r) (hL : WL Z) (t : Int32) {i : Nat} (hi : i < 2 ^ 16) (g : lt Z i = 106) (o1 : okc 0 (lt Z (i + 1)) = true) (o2 : okc 0 (lt Z (i + 2)) = true) (o3 : okc 0 (lt Z (i + 3)) = true) (o4 : okc 0 (lt Z (i + 4)) = true) (v0 : V 0 = nI (nm (lt Z) (i + 1))) (v1 : V 1 = nI (nm (lt Z) (i + 3))) : TK F Z M r V t i := by
  have h7 := h.n7
  have hb := nm_le (g := lt Z) (i := i + 1) o1 o2
  have hb3 := nm_le (g := lt Z) (i := i + 3) o3 o4
  unfold TK
  rw [f_X1_takes, nI_1, ob_eq (x_num2 hL (by omega) o1 o2), ob_eq (x_numbered h (by omega)), ob_eq (x_sign hL (by omega)), g, show sgn 106 = 106 from rfl, if_neg (by decide), if_neg (by decide), if_pos rfl, zL3, nI_add, ob_eq (x_num2 hL (by omega) o3 o4), ob_eq (x_numbered h (by omega)), f_X6_comes, if_neg (by decide), show (mK M r V t).2.2.2.2.2.2.1 0 = nI (nm (lt Z) (i + 1)) from v0, ob_eq (m_numbered (P := mK M r V t) hs h (by omega))]
  have no : f_X1_joins F (nx F (nm (lt Z) (i + 1))) (nx F (nm (lt Z) (i + 3))) = some (0, F) → ∀ y : Option (Int32 × ST_X6), y = some (0, mK M r V t) → ∃ F' r' b, ((f_X1_joins F (nx F (nm (lt Z) (i + 1))) (nx F (nm (lt Z) (i + 3)))).bind fun r12 => if r12.1 &&& 1 = r12.1 then some (r12.1, r12.2) else none) = some (if b = true then 1 else 0, F') ∧ y = some (if b = true then 1 else 0, mK M r' V t) ∧ (b = true → WF F' ∧ sF F' r' ∧ kp r r') := by
    intro e1 y e2
    rw [ob_eq e1]
    exact ⟨F, r, false, (if_pos (show (0 : Int32) &&& 1 = 0 by decide)).trans rfl, e2, fun z => absurd z Bool.false_ne_true⟩
  rcases fi_cases (fun e => nu F e == nm (lt Z) (i + 1)) (nE F) 0 with q | ⟨e, e1, e2, e3, e4⟩
  · refine no ?_ _ ?_
    · rw [show nx F (nm (lt Z) (i + 1)) = -9 from q, f_X1_joins, ob_eq (x_knows_neg F zm9_lt), if_pos rfl, f_X1_joins_b43]
    · rw [show nx F (nm (lt Z) (i + 1)) = -9 from q, if_neg (by decide)]
  · have he : e < nE F := by omega
    rw [show nx F (nm (lt Z) (i + 1)) = nI e from e4] at no ⊢
    rw [if_pos (nI_pos' (by omega)), if_neg (by decide), f_X6_comes_b221, if_neg (by decide), f_X6_comes_b239, if_pos rfl, show (mK M r V t).2.2.2.2.2.2.1 1 = nI (nm (lt Z) (i + 3)) from v1, ob_eq (m_numbered (P := mK M r V t) hs h (by omega))]
    rcases fi_cases (fun e => nu F e == nm (lt Z) (i + 3)) (nE F) 0 with q | ⟨f, f1, f2, f3, f4⟩
    · refine no ?_ _ ?_
      · rw [show nx F (nm (lt Z) (i + 3)) = -9 from q, f_X1_joins, ob_eq (x_knows_in h he), if_neg (by decide), ob_eq (x_knows_neg F zm9_lt), if_pos rfl, f_X1_joins_b43]
      · rw [show nx F (nm (lt Z) (i + 3)) = -9 from q, if_pos (by decide), f_X6_comes_b299]
    · have hf : f < nE F := by omega
      have ee : (nI e).toNatClampNeg = e := zclamp (by omega)
      have ff : (nI f).toNatClampNeg = f := zclamp (by omega)
      have ie : inB (nI e) 7 := zin (by omega) (by omega)
      have if7 : inB (nI f) 7 := zin (by omega) (by omega)
      rw [show nx F (nm (lt Z) (i + 3)) = nI f from f4] at no ⊢
      rw [if_neg (zn_neg (by omega)), zif (zeq (a := e) (b := f) (by omega) (by omega))]
      rw [f_X1_joins, ob_eq (x_knows_in h he), if_neg (by decide), ob_eq (x_knows_in h hf), if_neg (by decide), zif (zeq (a := e) (b := f) (by omega) (by omega)), if_pos ie, if_pos if7, if_pos ie] at no ⊢
      simp only [ee, ff] at no ⊢
      by_cases g1 : e = f
      · rw [if_pos g1] at no ⊢
        rw [if_pos g1]
        exact no rfl _ rfl
      · rw [if_neg g1] at no ⊢
        rw [if_neg g1, zL5, zL11, zL3, pk_mul, pk_mul, nI_add, nI_add, nI_add, nI_add]
        have ib1 : inB (nI (5 + 11 * e + 3)) 130 := zin (by omega) (by omega)
        have ib2 : inB (nI (5 + 11 * f + 3)) 130 := zin (by omega) (by omega)
        have ea : (nI (5 + 11 * e + 3)).toNatClampNeg = 5 + 11 * e + 3 := zclamp (by omega)
        have eb : (nI (5 + 11 * f + 3)).toNatClampNeg = 5 + 11 * f + 3 := zclamp (by omega)
        simp only [if_pos ib1, if_pos ib2, ea, eb, show (mK M r V t).2.2.2.1 = r from rfl, (hs.2.2.2 e he).2.2.2.1, (hs.2.2.2 f hf).2.2.2.1]
        obtain ⟨j1, j2, j3, j4⟩ := jo_facts h he
        obtain ⟨k1, k2, k3, k4⟩ := jo_facts h hf
        by_cases g2 : F.2.2.2.1 e = -9
        · rw [if_pos g2] at no ⊢
          rw [g2, if_neg (show ¬ (0 : Int32) ≤ -9 by decide)]
          by_cases g3 : F.2.2.2.1 f = -9
          · rw [if_pos g3, if_pos if7]
            rw [g3, if_pos (show (-9 : Int32) < 0 by decide)]
            exact ⟨setJ F e f, upd (upd r (5 + 11 * e + 3) (nI f)) (5 + 11 * f + 3) (nI e), true, (if_pos (show (1 : Int32) &&& 1 = 1 by decide)).trans rfl, rfl, fun _ => ⟨setJ_WF h he hf g1 g2 g3, setJ_sF h hs he hf, by rw [pk_un (by omega), pk_un (by omega)], by rw [pk_un (by omega), pk_un (by omega)], fun j hj => by rw [pk_un (by omega), pk_un (by omega)]⟩⟩
          · rw [if_neg g3] at no ⊢
            refine no rfl _ ?_
            rw [(k4 g3).1, if_neg (zn_neg (by omega)), f_X6_comes_b299]
        · rw [if_neg g2] at no ⊢
          refine no rfl _ ?_
          rw [(j4 g2).1, if_pos (nI_pos' (by omega)), f_X6_comes_b299]
end T
