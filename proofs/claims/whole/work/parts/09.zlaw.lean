/-! calls over two worlds side by side: the callee's is the left one, or the right one -/
section ZL
variable {p : Program} {l : Launch} {e : Env} {R : Room} {s : State} {m : MethodId} {args : Array Value} {below : List Frame} {meth : Method} {c : Code} {H : Heap} {locs : List Loc} {cells slots : Nat} {Q : State → Prop}
variable {pc : Nat} {ls : Array Slot} {rest st0 : List Value} {av : Array Value} {A : Nat → Prop} {G : zG} {w1 w2 : va_W} {D : va_G} {cl : List vw_C}
theorem zp_left (h : va_P D cl (w1 ++ w2) H) : va_P D cl w1 H := fun k q hk => h k q (by rw [List.getElem?_append_left (List.getElem?_eq_some_iff.mp hk).1]; exact hk)
theorem zp_right (h : va_P D cl (w1 ++ w2) H) : va_P D cl w2 H := fun k q hk => h (w1.length + k) q (by rw [List.getElem?_append_right (by omega), Nat.add_sub_cancel_left]; exact hk)
theorem zd_left (h : va_D A (w1 ++ w2)) : va_D A w1 := by
  have up : ∀ (k : Nat) (q : Nat × va_E), w1[k]? = some q → (w1 ++ w2)[k]? = some q := fun k q hk => by rw [List.getElem?_append_left (List.getElem?_eq_some_iff.mp hk).1]; exact hk
  exact ⟨fun i j x y hi hj e => h.1 i j x y (up i x hi) (up j y hj) e, fun k q hk => h.2 k q (up k q hk)⟩
theorem zd_right (h : va_D A (w1 ++ w2)) : va_D A w2 := by
  have up : ∀ (k : Nat) (q : Nat × va_E), w2[k]? = some q → (w1 ++ w2)[w1.length + k]? = some q := fun k q hk => by rw [List.getElem?_append_right (by omega), Nat.add_sub_cancel_left]; exact hk
  exact ⟨fun i j x y hi hj e => by have := h.1 _ _ x y (up i x hi) (up j y hj) e; omega, fun k q hk => h.2 _ q (up k q hk)⟩
theorem zd_apart (h : va_D A (w1 ++ w2)) : ∀ (i j : Nat) (p q : Nat × va_E), w1[i]? = some p → w2[j]? = some q → p.1 ≠ q.1 := by
  intro i j x y hi hj e
  have l1 := (List.getElem?_eq_some_iff.mp hi).1
  have := h.1 i (w1.length + j) x y (by rw [List.getElem?_append_left l1]; exact hi) (by rw [List.getElem?_append_right (by omega), Nat.add_sub_cancel_left]; exact hj) e
  omega
theorem zf_of {w : va_W} (hD : va_D A w) (hS : va_S A s.heap H locs) (hA : ∀ q, s.heap.size ≤ q → A q) : ∀ q, va_A w H.size q → A q := by
  intro q h
  rcases h with ⟨k, e, h⟩ | h
  · exact hD.2 k (q, e) h
  · exact hA q (Nat.le_trans hS.1 h)
theorem zk_right {H1 : Heap} (hP : va_P D cl (w1 ++ w2) H) (hD : va_D A (w1 ++ w2)) (hk : ∀ q : Nat, q < H.size → ¬ va_A w1 H.size q → H1[q]? = H[q]?) : va_P D cl w2 H1 := by
  have hP2 := zp_right hP
  refine hP2.kept (fun k q hq => hk q.1 ((hP2 k q hq).lt) (fun h => ?_))
  rcases h with ⟨i, e, h⟩ | h
  · exact zd_apart hD i k (q.1, e) q h hq rfl
  · have := (hP2 k q hq).lt
    omega
theorem zk_left {H1 : Heap} (hP : va_P D cl (w1 ++ w2) H) (hD : va_D A (w1 ++ w2)) (hk : ∀ q : Nat, q < H.size → ¬ va_A w2 H.size q → H1[q]? = H[q]?) : va_P D cl w1 H1 := by
  have hP2 := zp_left hP
  refine hP2.kept (fun k q hq => hk q.1 ((hP2 k q hq).lt) (fun h => ?_))
  rcases h with ⟨i, e, h⟩ | h
  · exact zd_apart hD k i q (q.1, e) hq h rfl
  · have := (hP2 k q hq).lt
    omega
theorem zc_wrL {T : Type} {cf : T → va_W} {out : Int32 × T} (hr : va_Run p l e R s m args below meth c H locs cells slots 0 0 (F0 m pc ls st0) rest (QWr G cf out (va_A w1 H.size) av) (va_A w1 H.size)) (hP : va_P G.1 vwCl (w1 ++ w2) H) (hD : va_D A (w1 ++ w2)) (hS : va_S A s.heap H locs) (hA : ∀ q, s.heap.size ≤ q → A q)
    (kk : ∀ (H1 : Heap) (locs1 : List Loc), va_P G.1 vwCl (cf out.2 ++ w2) H1 → va_D A (cf out.2 ++ w2) → va_S A s.heap H1 locs1 → W p l e R s m args below meth c H1 locs1 cells slots Q (F0 m (pc + 3) ls (.int out.1 :: rest))) : W p l e R s m args below meth c H locs cells slots Q (F0 m pc ls st0) := by
  have hF := zf_of (zd_left hD) hS hA
  refine va_calli hr hS (fun q _ h => hF q h) hF (fun r u t H1 locs1 ht hvm hw hB hz1 hk1 hS1 => ?_)
  obtain ⟨rfl, rfl⟩ := hw
  obtain ⟨hB, hB2⟩ := hB
  rw [ht] at hB
  refine kk H1 locs1 (va_P.app hB (zk_right hP hD hk1)) (va_D.app (hB2.weaken (fun _ q _ h => hF q.1 h)) (zd_right hD) (fun i j x y hx hy exy => ?_)) hS1
  rcases hB2.2 i x hx with ⟨k, e2, h⟩ | h
  · exact zd_apart hD k j (x.1, e2) y h hy exy
  · have := ((zp_right hP) j y hy).lt
    omega
theorem zc_wrR {T : Type} {cf : T → va_W} {out : Int32 × T} (hr : va_Run p l e R s m args below meth c H locs cells slots 0 0 (F0 m pc ls st0) rest (QWr G cf out (va_A w2 H.size) av) (va_A w2 H.size)) (hP : va_P G.1 vwCl (w1 ++ w2) H) (hD : va_D A (w1 ++ w2)) (hS : va_S A s.heap H locs) (hA : ∀ q, s.heap.size ≤ q → A q)
    (kk : ∀ (H1 : Heap) (locs1 : List Loc), va_P G.1 vwCl (w1 ++ cf out.2) H1 → va_D A (w1 ++ cf out.2) → va_S A s.heap H1 locs1 → W p l e R s m args below meth c H1 locs1 cells slots Q (F0 m (pc + 3) ls (.int out.1 :: rest))) : W p l e R s m args below meth c H locs cells slots Q (F0 m pc ls st0) := by
  have hF := zf_of (zd_right hD) hS hA
  refine va_calli hr hS (fun q _ h => hF q h) hF (fun r u t H1 locs1 ht hvm hw hB hz1 hk1 hS1 => ?_)
  obtain ⟨rfl, rfl⟩ := hw
  obtain ⟨hB, hB2⟩ := hB
  rw [ht] at hB
  refine kk H1 locs1 (va_P.app (zk_left hP hD hk1) hB) (va_D.app (zd_left hD) (hB2.weaken (fun _ q _ h => hF q.1 h)) (fun i j x y hx hy exy => ?_)) hS1
  rcases hB2.2 j y hy with ⟨k, e2, h⟩ | h
  · exact zd_apart hD i k x (y.1, e2) hx h exy
  · have := ((zp_left hP) i x hx).lt
    omega
theorem zc_roL {out : Int32} (hr : va_Run p l e R s m args below meth c H locs cells slots 0 0 (F0 m pc ls st0) rest (QRo G w1 out (va_A w1 H.size) av) (va_A w1 H.size)) (hP : va_P G.1 vwCl (w1 ++ w2) H) (hD : va_D A (w1 ++ w2)) (hS : va_S A s.heap H locs) (hA : ∀ q, s.heap.size ≤ q → A q)
    (kk : ∀ (H1 : Heap) (locs1 : List Loc), va_P G.1 vwCl (w1 ++ w2) H1 → va_D A (w1 ++ w2) → va_S A s.heap H1 locs1 → W p l e R s m args below meth c H1 locs1 cells slots Q (F0 m (pc + 3) ls (.int out :: rest))) : W p l e R s m args below meth c H locs cells slots Q (F0 m pc ls st0) := by
  have hF := zf_of (zd_left hD) hS hA
  refine va_calli hr hS (fun q _ h => hF q h) hF (fun r u t H1 locs1 ht hvm hw hB hz1 hk1 hS1 => ?_)
  rw [ht] at hB
  subst hw
  exact kk H1 locs1 (va_P.app hB (zk_right hP hD hk1)) hD hS1
theorem zc_roR {out : Int32} (hr : va_Run p l e R s m args below meth c H locs cells slots 0 0 (F0 m pc ls st0) rest (QRo G w2 out (va_A w2 H.size) av) (va_A w2 H.size)) (hP : va_P G.1 vwCl (w1 ++ w2) H) (hD : va_D A (w1 ++ w2)) (hS : va_S A s.heap H locs) (hA : ∀ q, s.heap.size ≤ q → A q)
    (kk : ∀ (H1 : Heap) (locs1 : List Loc), va_P G.1 vwCl (w1 ++ w2) H1 → va_D A (w1 ++ w2) → va_S A s.heap H1 locs1 → W p l e R s m args below meth c H1 locs1 cells slots Q (F0 m (pc + 3) ls (.int out :: rest))) : W p l e R s m args below meth c H locs cells slots Q (F0 m pc ls st0) := by
  have hF := zf_of (zd_right hD) hS hA
  refine va_calli hr hS (fun q _ h => hF q h) hF (fun r u t H1 locs1 ht hvm hw hB hz1 hk1 hS1 => ?_)
  rw [ht] at hB
  subst hw
  exact kk H1 locs1 (va_P.app (zk_left hP hD hk1) hB) hD hS1
end ZL
