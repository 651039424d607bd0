set_option maxHeartbeats 4000000 in
set_option maxRecDepth 100000 in
theorem law_case_0 {p : Program} {l : Launch} {e : Env} {s : State} {m : MethodId} {below : List Frame} {meth : Method} {c : Code} {b L : Nat} {xs : Nat → Int32} (C0 : lw_At p s m meth c b L xs) (G : zG) (a1 : AT_X5) (a2 : AT_X6) (hK : va_K G.1 vwCl [(G.2.1, .int)] s) (A : Nat → Prop) (hAe : A = fun q : Nat => s.heap.size ≤ q) (hE : EN G A s s.heap) (fu : Nat) (blk952 : ∀ (S1 : ST_X5) (S2 : ST_X6) (v3 : Int32), f_L_law_b952 L xs (f_L_law_b18 L xs fu) S1 S2 v3 = some 1 → ∀ (H : Heap) (locs : List Loc), va_P G.1 vwCl (ce_X5 G.2.1 a1 S1 ++ ce_X6 G.2.1 a2 S2) H → va_D A (ce_X5 G.2.1 a1 S1 ++ ce_X6 G.2.1 a2 S2) → va_S A s.heap H locs → ∀ (ls : Array Slot), lv_has ls 4 [(0, .ref b), (1, .ref a1.1), (2, .ref a2.1), (3, .int v3)] → W p l e room_1 s m #[Value.ref b] below meth c H locs 600000 7302250 (lw_Z below #[Value.ref b] s) (F0 m 952 ls [])) (S1 : ST_X5) (S2 : ST_X6) (v3 : Int32) (hf : (if inB (v3 + 1) L then ((f_X5_letter S1 (xs (v3 + 1).toNatClampNeg)).bind fun r5 => if inB (v3 + 1) L then ((f_X6_letter S2 (xs (v3 + 1).toNatClampNeg)).bind fun r7 => if r5.1 = r7.1 then (f_L_law_b952 L xs (f_L_law_b18 L xs fu) r5.2 r7.2 v3) else some 0) else none) else none) = some 1) : ∀ (H : Heap) (locs : List Loc), va_P G.1 vwCl (ce_X5 G.2.1 a1 S1 ++ ce_X6 G.2.1 a2 S2) H → va_D A (ce_X5 G.2.1 a1 S1 ++ ce_X6 G.2.1 a2 S2) → va_S A s.heap H locs → ∀ (ls : Array Slot), lv_has ls 4 [(0, .ref b), (1, .ref a1.1), (2, .ref a2.1), (3, .int v3)] → W p l e room_1 s m #[Value.ref b] below meth c H locs 600000 7302250 (lw_Z below #[Value.ref b] s) (F0 m 176 ls []) := by
  obtain ⟨hx, hb, hr, hml, hown, htsT, hX, hbl, hlocks, hgv⟩ := id C0
  have hown : s.vm.findClass RL = some m.cls := hown
  have hb : c.code = cL_law := hb
  have hts : ∀ w ∈ wsL_law, w.before #[Value.ref b] s = true := fun w h => htsT w (wsL_law_in w h)
  have hA : ∀ q : Nat, s.heap.size ≤ q → A q := fun q h => by rw [hAe]; exact h
  have hbA : ¬ A b := by rw [hAe]; exact Nat.not_le.mpr hbl
  intro H locs hP hD hS ls hl
  refine lv_aload_n hx hb dL_law_176 rfl (lv_at hl 1 rfl) ?_
  refine lv_aload_n hx hb dL_law_177 rfl (lv_at hl 0 rfl) ?_
  refine lv_iload_n hx hb dL_law_178 rfl (lv_at hl 3 rfl) ?_
  refine lv_iconst (v := 1) hx hb dL_law_179 (by decide) ?_
  refine lv_iadd hx hb dL_law_180 ?_
  obtain ⟨hg4, hf⟩ := ob_guard hf
  refine va_sld hx hb hX hbl hbA hS hg4 dL_law_181 ?_
  obtain ⟨r5, hr5, hf⟩ := ob_bind hf
  have hPc : va_P G.1 vwCl (ce_X5 G.2.1 a1 S1) H := zp_left hP
  have hDc : va_D A (ce_X5 G.2.1 a1 S1) := zd_left hD
  have hFc := zf_of hDc hS hA
  refine zc_wrL (cf := (fun u => ce_X5 G.2.1 a1 u)) (va_runV (As := [.int (xs (v3 + 1).toNatClampNeg)]) (rest := []) ⟨hx, hb, hml, hown, hts⟩ (c_X5_letter l G a1 H.size S1 (xs (v3 + 1).toNatClampNeg) _ hr5) (cwV 1 hts gL_law_X5_letter rfl rfl rfl (by decide +kernel) ⟨Nat.le_of_ble_eq_true rfl, Nat.le_of_ble_eq_true rfl⟩) ⟨PcM.blind, va_recv hK hPc (ci := 5) (q0 := 0) rfl rfl, PcM.ok hPc hDc hK hE hS hFc⟩ rfl rfl hl.1 rfl (lv_room (Nat.le_of_ble_eq_true rfl)) dL_law_182 ⟨Nat.le_refl _, Nat.le_refl _⟩) hP hD hS hA (fun H locs hP hD hS => ?_)
  refine lv_aload_n hx hb dL_law_185 rfl (lv_at hl 2 rfl) ?_
  refine lv_aload_n hx hb dL_law_186 rfl (lv_at hl 0 rfl) ?_
  refine lv_iload_n hx hb dL_law_187 rfl (lv_at hl 3 rfl) ?_
  refine lv_iconst (v := 1) hx hb dL_law_188 (by decide) ?_
  refine lv_iadd hx hb dL_law_189 ?_
  obtain ⟨hg6, hf⟩ := ob_guard hf
  refine va_sld hx hb hX hbl hbA hS hg6 dL_law_190 ?_
  obtain ⟨r7, hr7, hf⟩ := ob_bind hf
  have hPc : va_P G.1 vwCl (ce_X6 G.2.1 a2 S2) H := zp_right hP
  have hDc : va_D A (ce_X6 G.2.1 a2 S2) := zd_right hD
  have hFc := zf_of hDc hS hA
  refine zc_wrR (cf := (fun u => ce_X6 G.2.1 a2 u)) (va_runV (As := [.int (xs (v3 + 1).toNatClampNeg)]) (rest := [.int r5.1]) ⟨hx, hb, hml, hown, hts⟩ (c_X6_letter l G a2 H.size S2 (xs (v3 + 1).toNatClampNeg) _ hr7) (cwV 1 hts gL_law_X6_letter rfl rfl rfl (by decide +kernel) ⟨Nat.le_of_ble_eq_true rfl, Nat.le_of_ble_eq_true rfl⟩) ⟨PcM.blind, va_recv hK hPc (ci := 6) (q0 := 0) rfl rfl, PcM.ok hPc hDc hK hE hS hFc⟩ rfl rfl hl.1 rfl (lv_room (Nat.le_of_ble_eq_true rfl)) dL_law_191 ⟨Nat.le_refl _, Nat.le_refl _⟩) hP hD hS hA (fun H locs hP hD hS => ?_)
  refine lv_icmp_eq (tgt := 952) hx hb dL_law_194 (by decide) (fun c8 => ?_) (fun c8 => ?_)
  · replace hf := ob_pos c8 hf
    exact blk952 _ _ _ hf _ _ hP hD hS _ (lv_sub hl [0, 1, 2, 3] rfl)
  · replace hf := ob_neg c8 hf
    refine lv_iconst (v := 0) hx hb dL_law_197 (by decide) ?_
    exact absurd hf (by decide)
set_option maxHeartbeats 4000000 in
set_option maxRecDepth 100000 in
theorem law_case_1 {p : Program} {l : Launch} {e : Env} {s : State} {m : MethodId} {below : List Frame} {meth : Method} {c : Code} {b L : Nat} {xs : Nat → Int32} (C0 : lw_At p s m meth c b L xs) (G : zG) (a1 : AT_X5) (a2 : AT_X6) (hK : va_K G.1 vwCl [(G.2.1, .int)] s) (A : Nat → Prop) (hAe : A = fun q : Nat => s.heap.size ≤ q) (hE : EN G A s s.heap) (fu : Nat) (blk952 : ∀ (S1 : ST_X5) (S2 : ST_X6) (v3 : Int32), f_L_law_b952 L xs (f_L_law_b18 L xs fu) S1 S2 v3 = some 1 → ∀ (H : Heap) (locs : List Loc), va_P G.1 vwCl (ce_X5 G.2.1 a1 S1 ++ ce_X6 G.2.1 a2 S2) H → va_D A (ce_X5 G.2.1 a1 S1 ++ ce_X6 G.2.1 a2 S2) → va_S A s.heap H locs → ∀ (ls : Array Slot), lv_has ls 4 [(0, .ref b), (1, .ref a1.1), (2, .ref a2.1), (3, .int v3)] → W p l e room_1 s m #[Value.ref b] below meth c H locs 600000 7302250 (lw_Z below #[Value.ref b] s) (F0 m 952 ls [])) (S1 : ST_X5) (S2 : ST_X6) (v3 : Int32) (hf : ((f_X5_land S1).bind fun r9 => (f_X6_land S2).bind fun r10 => if r9.1 = r10.1 then (f_L_law_b952 L xs (f_L_law_b18 L xs fu) r9.2 r10.2 v3) else some 0) = some 1) : ∀ (H : Heap) (locs : List Loc), va_P G.1 vwCl (ce_X5 G.2.1 a1 S1 ++ ce_X6 G.2.1 a2 S2) H → va_D A (ce_X5 G.2.1 a1 S1 ++ ce_X6 G.2.1 a2 S2) → va_S A s.heap H locs → ∀ (ls : Array Slot), lv_has ls 4 [(0, .ref b), (1, .ref a1.1), (2, .ref a2.1), (3, .int v3)] → W p l e room_1 s m #[Value.ref b] below meth c H locs 600000 7302250 (lw_Z below #[Value.ref b] s) (F0 m 199 ls []) := by
  obtain ⟨hx, hb, hr, hml, hown, htsT, hX, hbl, hlocks, hgv⟩ := id C0
  have hown : s.vm.findClass RL = some m.cls := hown
  have hb : c.code = cL_law := hb
  have hts : ∀ w ∈ wsL_law, w.before #[Value.ref b] s = true := fun w h => htsT w (wsL_law_in w h)
  have hA : ∀ q : Nat, s.heap.size ≤ q → A q := fun q h => by rw [hAe]; exact h
  have hbA : ¬ A b := by rw [hAe]; exact Nat.not_le.mpr hbl
  intro H locs hP hD hS ls hl
  refine lv_aload_n hx hb dL_law_199 rfl (lv_at hl 1 rfl) ?_
  obtain ⟨r9, hr9, hf⟩ := ob_bind hf
  have hPc : va_P G.1 vwCl (ce_X5 G.2.1 a1 S1) H := zp_left hP
  have hDc : va_D A (ce_X5 G.2.1 a1 S1) := zd_left hD
  have hFc := zf_of hDc hS hA
  refine zc_wrL (cf := (fun u => ce_X5 G.2.1 a1 u)) (va_runV (As := []) (rest := []) ⟨hx, hb, hml, hown, hts⟩ (c_X5_land l G a1 H.size S1 _ hr9) (cwV 0 hts gL_law_X5_land rfl rfl rfl (by decide +kernel) ⟨Nat.le_of_ble_eq_true rfl, Nat.le_of_ble_eq_true rfl⟩) ⟨PcM.blind, va_recv hK hPc (ci := 5) (q0 := 0) rfl rfl, PcM.ok hPc hDc hK hE hS hFc⟩ rfl rfl hl.1 rfl (lv_room (Nat.le_of_ble_eq_true rfl)) dL_law_200 ⟨Nat.le_refl _, Nat.le_refl _⟩) hP hD hS hA (fun H locs hP hD hS => ?_)
  refine lv_aload_n hx hb dL_law_203 rfl (lv_at hl 2 rfl) ?_
  obtain ⟨r10, hr10, hf⟩ := ob_bind hf
  have hPc : va_P G.1 vwCl (ce_X6 G.2.1 a2 S2) H := zp_right hP
  have hDc : va_D A (ce_X6 G.2.1 a2 S2) := zd_right hD
  have hFc := zf_of hDc hS hA
  refine zc_wrR (cf := (fun u => ce_X6 G.2.1 a2 u)) (va_runV (As := []) (rest := [.int r9.1]) ⟨hx, hb, hml, hown, hts⟩ (c_X6_land l G a2 H.size S2 _ hr10) (cwV 0 hts gL_law_X6_land rfl rfl rfl (by decide +kernel) ⟨Nat.le_of_ble_eq_true rfl, Nat.le_of_ble_eq_true rfl⟩) ⟨PcM.blind, va_recv hK hPc (ci := 6) (q0 := 0) rfl rfl, PcM.ok hPc hDc hK hE hS hFc⟩ rfl rfl hl.1 rfl (lv_room (Nat.le_of_ble_eq_true rfl)) dL_law_204 ⟨Nat.le_refl _, Nat.le_refl _⟩) hP hD hS hA (fun H locs hP hD hS => ?_)
  refine lv_icmp_eq (tgt := 952) hx hb dL_law_207 (by decide) (fun c11 => ?_) (fun c11 => ?_)
  · replace hf := ob_pos c11 hf
    exact blk952 _ _ _ hf _ _ hP hD hS _ (lv_sub hl [0, 1, 2, 3] rfl)
  · replace hf := ob_neg c11 hf
    refine lv_iconst (v := 0) hx hb dL_law_210 (by decide) ?_
    exact absurd hf (by decide)
set_option maxHeartbeats 4000000 in
set_option maxRecDepth 100000 in
theorem law_case_2 {p : Program} {l : Launch} {e : Env} {s : State} {m : MethodId} {below : List Frame} {meth : Method} {c : Code} {b L : Nat} {xs : Nat → Int32} (C0 : lw_At p s m meth c b L xs) (G : zG) (a1 : AT_X5) (a2 : AT_X6) (hK : va_K G.1 vwCl [(G.2.1, .int)] s) (A : Nat → Prop) (hAe : A = fun q : Nat => s.heap.size ≤ q) (hE : EN G A s s.heap) (fu : Nat) (blk952 : ∀ (S1 : ST_X5) (S2 : ST_X6) (v3 : Int32), f_L_law_b952 L xs (f_L_law_b18 L xs fu) S1 S2 v3 = some 1 → ∀ (H : Heap) (locs : List Loc), va_P G.1 vwCl (ce_X5 G.2.1 a1 S1 ++ ce_X6 G.2.1 a2 S2) H → va_D A (ce_X5 G.2.1 a1 S1 ++ ce_X6 G.2.1 a2 S2) → va_S A s.heap H locs → ∀ (ls : Array Slot), lv_has ls 4 [(0, .ref b), (1, .ref a1.1), (2, .ref a2.1), (3, .int v3)] → W p l e room_1 s m #[Value.ref b] below meth c H locs 600000 7302250 (lw_Z below #[Value.ref b] s) (F0 m 952 ls [])) (S1 : ST_X5) (S2 : ST_X6) (v3 : Int32) (hf : (if inB (v3 + 1) L then (if inB (v3 + 2) L then ((f_X5_engine S1 (xs (v3 + 1).toNatClampNeg) (xs (v3 + 2).toNatClampNeg)).bind fun r14 => if inB (v3 + 1) L then (if inB (v3 + 2) L then ((f_X6_engine S2 (xs (v3 + 1).toNatClampNeg) (xs (v3 + 2).toNatClampNeg)).bind fun r17 => if r14.1 = r17.1 then (f_L_law_b952 L xs (f_L_law_b18 L xs fu) r14.2 r17.2 v3) else some 0) else none) else none) else none) else none) = some 1) : ∀ (H : Heap) (locs : List Loc), va_P G.1 vwCl (ce_X5 G.2.1 a1 S1 ++ ce_X6 G.2.1 a2 S2) H → va_D A (ce_X5 G.2.1 a1 S1 ++ ce_X6 G.2.1 a2 S2) → va_S A s.heap H locs → ∀ (ls : Array Slot), lv_has ls 4 [(0, .ref b), (1, .ref a1.1), (2, .ref a2.1), (3, .int v3)] → W p l e room_1 s m #[Value.ref b] below meth c H locs 600000 7302250 (lw_Z below #[Value.ref b] s) (F0 m 212 ls []) := by
  obtain ⟨hx, hb, hr, hml, hown, htsT, hX, hbl, hlocks, hgv⟩ := id C0
  have hown : s.vm.findClass RL = some m.cls := hown
  have hb : c.code = cL_law := hb
  have hts : ∀ w ∈ wsL_law, w.before #[Value.ref b] s = true := fun w h => htsT w (wsL_law_in w h)
  have hA : ∀ q : Nat, s.heap.size ≤ q → A q := fun q h => by rw [hAe]; exact h
  have hbA : ¬ A b := by rw [hAe]; exact Nat.not_le.mpr hbl
  intro H locs hP hD hS ls hl
  refine lv_aload_n hx hb dL_law_212 rfl (lv_at hl 1 rfl) ?_
  refine lv_aload_n hx hb dL_law_213 rfl (lv_at hl 0 rfl) ?_
  refine lv_iload_n hx hb dL_law_214 rfl (lv_at hl 3 rfl) ?_
  refine lv_iconst (v := 1) hx hb dL_law_215 (by decide) ?_
  refine lv_iadd hx hb dL_law_216 ?_
  obtain ⟨hg12, hf⟩ := ob_guard hf
  refine va_sld hx hb hX hbl hbA hS hg12 dL_law_217 ?_
  refine lv_aload_n hx hb dL_law_218 rfl (lv_at hl 0 rfl) ?_
  refine lv_iload_n hx hb dL_law_219 rfl (lv_at hl 3 rfl) ?_
  refine lv_iconst (v := 2) hx hb dL_law_220 (by decide) ?_
  refine lv_iadd hx hb dL_law_221 ?_
  obtain ⟨hg13, hf⟩ := ob_guard hf
  refine va_sld hx hb hX hbl hbA hS hg13 dL_law_222 ?_
  obtain ⟨r14, hr14, hf⟩ := ob_bind hf
  have hPc : va_P G.1 vwCl (ce_X5 G.2.1 a1 S1) H := zp_left hP
  have hDc : va_D A (ce_X5 G.2.1 a1 S1) := zd_left hD
  have hFc := zf_of hDc hS hA
  refine zc_wrL (cf := (fun u => ce_X5 G.2.1 a1 u)) (va_runV (As := [.int (xs (v3 + 1).toNatClampNeg), .int (xs (v3 + 2).toNatClampNeg)]) (rest := []) ⟨hx, hb, hml, hown, hts⟩ (c_X5_engine l G a1 H.size S1 (xs (v3 + 1).toNatClampNeg) (xs (v3 + 2).toNatClampNeg) _ hr14) (cwV 2 hts gL_law_X5_engine rfl rfl rfl (by decide +kernel) ⟨Nat.le_of_ble_eq_true rfl, Nat.le_of_ble_eq_true rfl⟩) ⟨PcM.blind, va_recv hK hPc (ci := 5) (q0 := 0) rfl rfl, PcM.ok hPc hDc hK hE hS hFc⟩ rfl rfl hl.1 rfl (lv_room (Nat.le_of_ble_eq_true rfl)) dL_law_223 ⟨Nat.le_refl _, Nat.le_refl _⟩) hP hD hS hA (fun H locs hP hD hS => ?_)
  refine lv_aload_n hx hb dL_law_226 rfl (lv_at hl 2 rfl) ?_
  refine lv_aload_n hx hb dL_law_227 rfl (lv_at hl 0 rfl) ?_
  refine lv_iload_n hx hb dL_law_228 rfl (lv_at hl 3 rfl) ?_
  refine lv_iconst (v := 1) hx hb dL_law_229 (by decide) ?_
  refine lv_iadd hx hb dL_law_230 ?_
  obtain ⟨hg15, hf⟩ := ob_guard hf
  refine va_sld hx hb hX hbl hbA hS hg15 dL_law_231 ?_
  refine lv_aload_n hx hb dL_law_232 rfl (lv_at hl 0 rfl) ?_
  refine lv_iload_n hx hb dL_law_233 rfl (lv_at hl 3 rfl) ?_
  refine lv_iconst (v := 2) hx hb dL_law_234 (by decide) ?_
  refine lv_iadd hx hb dL_law_235 ?_
  obtain ⟨hg16, hf⟩ := ob_guard hf
  refine va_sld hx hb hX hbl hbA hS hg16 dL_law_236 ?_
  obtain ⟨r17, hr17, hf⟩ := ob_bind hf
  have hPc : va_P G.1 vwCl (ce_X6 G.2.1 a2 S2) H := zp_right hP
  have hDc : va_D A (ce_X6 G.2.1 a2 S2) := zd_right hD
  have hFc := zf_of hDc hS hA
  refine zc_wrR (cf := (fun u => ce_X6 G.2.1 a2 u)) (va_runV (As := [.int (xs (v3 + 1).toNatClampNeg), .int (xs (v3 + 2).toNatClampNeg)]) (rest := [.int r14.1]) ⟨hx, hb, hml, hown, hts⟩ (c_X6_engine l G a2 H.size S2 (xs (v3 + 1).toNatClampNeg) (xs (v3 + 2).toNatClampNeg) _ hr17) (cwV 2 hts gL_law_X6_engine rfl rfl rfl (by decide +kernel) ⟨Nat.le_of_ble_eq_true rfl, Nat.le_of_ble_eq_true rfl⟩) ⟨PcM.blind, va_recv hK hPc (ci := 6) (q0 := 0) rfl rfl, PcM.ok hPc hDc hK hE hS hFc⟩ rfl rfl hl.1 rfl (lv_room (Nat.le_of_ble_eq_true rfl)) dL_law_237 ⟨Nat.le_refl _, Nat.le_refl _⟩) hP hD hS hA (fun H locs hP hD hS => ?_)
  refine lv_icmp_eq (tgt := 952) hx hb dL_law_240 (by decide) (fun c18 => ?_) (fun c18 => ?_)
  · replace hf := ob_pos c18 hf
    exact blk952 _ _ _ hf _ _ hP hD hS _ (lv_sub hl [0, 1, 2, 3] rfl)
  · replace hf := ob_neg c18 hf
    refine lv_iconst (v := 0) hx hb dL_law_243 (by decide) ?_
    exact absurd hf (by decide)
set_option maxHeartbeats 4000000 in
set_option maxRecDepth 100000 in
theorem law_case_3 {p : Program} {l : Launch} {e : Env} {s : State} {m : MethodId} {below : List Frame} {meth : Method} {c : Code} {b L : Nat} {xs : Nat → Int32} (C0 : lw_At p s m meth c b L xs) (G : zG) (a1 : AT_X5) (a2 : AT_X6) (hK : va_K G.1 vwCl [(G.2.1, .int)] s) (A : Nat → Prop) (hAe : A = fun q : Nat => s.heap.size ≤ q) (hE : EN G A s s.heap) (fu : Nat) (blk952 : ∀ (S1 : ST_X5) (S2 : ST_X6) (v3 : Int32), f_L_law_b952 L xs (f_L_law_b18 L xs fu) S1 S2 v3 = some 1 → ∀ (H : Heap) (locs : List Loc), va_P G.1 vwCl (ce_X5 G.2.1 a1 S1 ++ ce_X6 G.2.1 a2 S2) H → va_D A (ce_X5 G.2.1 a1 S1 ++ ce_X6 G.2.1 a2 S2) → va_S A s.heap H locs → ∀ (ls : Array Slot), lv_has ls 4 [(0, .ref b), (1, .ref a1.1), (2, .ref a2.1), (3, .int v3)] → W p l e room_1 s m #[Value.ref b] below meth c H locs 600000 7302250 (lw_Z below #[Value.ref b] s) (F0 m 952 ls [])) (S1 : ST_X5) (S2 : ST_X6) (v3 : Int32) (hf : (if inB (v3 + 1) L then (if inB (v3 + 2) L then ((f_X5_turn S1 (xs (v3 + 1).toNatClampNeg) (xs (v3 + 2).toNatClampNeg)).bind fun r21 => if inB (v3 + 1) L then (if inB (v3 + 2) L then ((f_X6_turn S2 (xs (v3 + 1).toNatClampNeg) (xs (v3 + 2).toNatClampNeg)).bind fun r24 => if r21.1 = r24.1 then (f_L_law_b952 L xs (f_L_law_b18 L xs fu) r21.2 r24.2 v3) else some 0) else none) else none) else none) else none) = some 1) : ∀ (H : Heap) (locs : List Loc), va_P G.1 vwCl (ce_X5 G.2.1 a1 S1 ++ ce_X6 G.2.1 a2 S2) H → va_D A (ce_X5 G.2.1 a1 S1 ++ ce_X6 G.2.1 a2 S2) → va_S A s.heap H locs → ∀ (ls : Array Slot), lv_has ls 4 [(0, .ref b), (1, .ref a1.1), (2, .ref a2.1), (3, .int v3)] → W p l e room_1 s m #[Value.ref b] below meth c H locs 600000 7302250 (lw_Z below #[Value.ref b] s) (F0 m 245 ls []) := by
  obtain ⟨hx, hb, hr, hml, hown, htsT, hX, hbl, hlocks, hgv⟩ := id C0
  have hown : s.vm.findClass RL = some m.cls := hown
  have hb : c.code = cL_law := hb
  have hts : ∀ w ∈ wsL_law, w.before #[Value.ref b] s = true := fun w h => htsT w (wsL_law_in w h)
  have hA : ∀ q : Nat, s.heap.size ≤ q → A q := fun q h => by rw [hAe]; exact h
  have hbA : ¬ A b := by rw [hAe]; exact Nat.not_le.mpr hbl
  intro H locs hP hD hS ls hl
  refine lv_aload_n hx hb dL_law_245 rfl (lv_at hl 1 rfl) ?_
  refine lv_aload_n hx hb dL_law_246 rfl (lv_at hl 0 rfl) ?_
  refine lv_iload_n hx hb dL_law_247 rfl (lv_at hl 3 rfl) ?_
  refine lv_iconst (v := 1) hx hb dL_law_248 (by decide) ?_
  refine lv_iadd hx hb dL_law_249 ?_
  obtain ⟨hg19, hf⟩ := ob_guard hf
  refine va_sld hx hb hX hbl hbA hS hg19 dL_law_250 ?_
  refine lv_aload_n hx hb dL_law_251 rfl (lv_at hl 0 rfl) ?_
  refine lv_iload_n hx hb dL_law_252 rfl (lv_at hl 3 rfl) ?_
  refine lv_iconst (v := 2) hx hb dL_law_253 (by decide) ?_
  refine lv_iadd hx hb dL_law_254 ?_
  obtain ⟨hg20, hf⟩ := ob_guard hf
  refine va_sld hx hb hX hbl hbA hS hg20 dL_law_255 ?_
  obtain ⟨r21, hr21, hf⟩ := ob_bind hf
  have hPc : va_P G.1 vwCl (ce_X5 G.2.1 a1 S1) H := zp_left hP
  have hDc : va_D A (ce_X5 G.2.1 a1 S1) := zd_left hD
  have hFc := zf_of hDc hS hA
  refine zc_wrL (cf := (fun u => ce_X5 G.2.1 a1 u)) (va_runV (As := [.int (xs (v3 + 1).toNatClampNeg), .int (xs (v3 + 2).toNatClampNeg)]) (rest := []) ⟨hx, hb, hml, hown, hts⟩ (c_X5_turn l G a1 H.size S1 (xs (v3 + 1).toNatClampNeg) (xs (v3 + 2).toNatClampNeg) _ hr21) (cwV 2 hts gL_law_X5_turn rfl rfl rfl (by decide +kernel) ⟨Nat.le_of_ble_eq_true rfl, Nat.le_of_ble_eq_true rfl⟩) ⟨PcM.blind, va_recv hK hPc (ci := 5) (q0 := 0) rfl rfl, PcM.ok hPc hDc hK hE hS hFc⟩ rfl rfl hl.1 rfl (lv_room (Nat.le_of_ble_eq_true rfl)) dL_law_256 ⟨Nat.le_refl _, Nat.le_refl _⟩) hP hD hS hA (fun H locs hP hD hS => ?_)
  refine lv_aload_n hx hb dL_law_259 rfl (lv_at hl 2 rfl) ?_
  refine lv_aload_n hx hb dL_law_260 rfl (lv_at hl 0 rfl) ?_
  refine lv_iload_n hx hb dL_law_261 rfl (lv_at hl 3 rfl) ?_
  refine lv_iconst (v := 1) hx hb dL_law_262 (by decide) ?_
  refine lv_iadd hx hb dL_law_263 ?_
  obtain ⟨hg22, hf⟩ := ob_guard hf
  refine va_sld hx hb hX hbl hbA hS hg22 dL_law_264 ?_
  refine lv_aload_n hx hb dL_law_265 rfl (lv_at hl 0 rfl) ?_
  refine lv_iload_n hx hb dL_law_266 rfl (lv_at hl 3 rfl) ?_
  refine lv_iconst (v := 2) hx hb dL_law_267 (by decide) ?_
  refine lv_iadd hx hb dL_law_268 ?_
  obtain ⟨hg23, hf⟩ := ob_guard hf
  refine va_sld hx hb hX hbl hbA hS hg23 dL_law_269 ?_
  obtain ⟨r24, hr24, hf⟩ := ob_bind hf
  have hPc : va_P G.1 vwCl (ce_X6 G.2.1 a2 S2) H := zp_right hP
  have hDc : va_D A (ce_X6 G.2.1 a2 S2) := zd_right hD
  have hFc := zf_of hDc hS hA
  refine zc_wrR (cf := (fun u => ce_X6 G.2.1 a2 u)) (va_runV (As := [.int (xs (v3 + 1).toNatClampNeg), .int (xs (v3 + 2).toNatClampNeg)]) (rest := [.int r21.1]) ⟨hx, hb, hml, hown, hts⟩ (c_X6_turn l G a2 H.size S2 (xs (v3 + 1).toNatClampNeg) (xs (v3 + 2).toNatClampNeg) _ hr24) (cwV 2 hts gL_law_X6_turn rfl rfl rfl (by decide +kernel) ⟨Nat.le_of_ble_eq_true rfl, Nat.le_of_ble_eq_true rfl⟩) ⟨PcM.blind, va_recv hK hPc (ci := 6) (q0 := 0) rfl rfl, PcM.ok hPc hDc hK hE hS hFc⟩ rfl rfl hl.1 rfl (lv_room (Nat.le_of_ble_eq_true rfl)) dL_law_270 ⟨Nat.le_refl _, Nat.le_refl _⟩) hP hD hS hA (fun H locs hP hD hS => ?_)
  refine lv_icmp_eq (tgt := 952) hx hb dL_law_273 (by decide) (fun c25 => ?_) (fun c25 => ?_)
  · replace hf := ob_pos c25 hf
    exact blk952 _ _ _ hf _ _ hP hD hS _ (lv_sub hl [0, 1, 2, 3] rfl)
  · replace hf := ob_neg c25 hf
    refine lv_iconst (v := 0) hx hb dL_law_276 (by decide) ?_
    exact absurd hf (by decide)
set_option maxHeartbeats 4000000 in
set_option maxRecDepth 100000 in
theorem law_case_4 {p : Program} {l : Launch} {e : Env} {s : State} {m : MethodId} {below : List Frame} {meth : Method} {c : Code} {b L : Nat} {xs : Nat → Int32} (C0 : lw_At p s m meth c b L xs) (G : zG) (a1 : AT_X5) (a2 : AT_X6) (hK : va_K G.1 vwCl [(G.2.1, .int)] s) (A : Nat → Prop) (hAe : A = fun q : Nat => s.heap.size ≤ q) (hE : EN G A s s.heap) (fu : Nat) (blk952 : ∀ (S1 : ST_X5) (S2 : ST_X6) (v3 : Int32), f_L_law_b952 L xs (f_L_law_b18 L xs fu) S1 S2 v3 = some 1 → ∀ (H : Heap) (locs : List Loc), va_P G.1 vwCl (ce_X5 G.2.1 a1 S1 ++ ce_X6 G.2.1 a2 S2) H → va_D A (ce_X5 G.2.1 a1 S1 ++ ce_X6 G.2.1 a2 S2) → va_S A s.heap H locs → ∀ (ls : Array Slot), lv_has ls 4 [(0, .ref b), (1, .ref a1.1), (2, .ref a2.1), (3, .int v3)] → W p l e room_1 s m #[Value.ref b] below meth c H locs 600000 7302250 (lw_Z below #[Value.ref b] s) (F0 m 952 ls [])) (S1 : ST_X5) (S2 : ST_X6) (v3 : Int32) (hf : (if inB (v3 + 1) L then (if inB (v3 + 2) L then ((f_X5_at S1 (xs (v3 + 1).toNatClampNeg) (xs (v3 + 2).toNatClampNeg)).bind fun r28 => if inB (v3 + 1) L then (if inB (v3 + 2) L then ((f_X6_at S2 (xs (v3 + 1).toNatClampNeg) (xs (v3 + 2).toNatClampNeg)).bind fun r31 => if r28.1 = r31.1 then (f_L_law_b952 L xs (f_L_law_b18 L xs fu) r28.2 r31.2 v3) else some 0) else none) else none) else none) else none) = some 1) : ∀ (H : Heap) (locs : List Loc), va_P G.1 vwCl (ce_X5 G.2.1 a1 S1 ++ ce_X6 G.2.1 a2 S2) H → va_D A (ce_X5 G.2.1 a1 S1 ++ ce_X6 G.2.1 a2 S2) → va_S A s.heap H locs → ∀ (ls : Array Slot), lv_has ls 4 [(0, .ref b), (1, .ref a1.1), (2, .ref a2.1), (3, .int v3)] → W p l e room_1 s m #[Value.ref b] below meth c H locs 600000 7302250 (lw_Z below #[Value.ref b] s) (F0 m 278 ls []) := by
  obtain ⟨hx, hb, hr, hml, hown, htsT, hX, hbl, hlocks, hgv⟩ := id C0
  have hown : s.vm.findClass RL = some m.cls := hown
  have hb : c.code = cL_law := hb
  have hts : ∀ w ∈ wsL_law, w.before #[Value.ref b] s = true := fun w h => htsT w (wsL_law_in w h)
  have hA : ∀ q : Nat, s.heap.size ≤ q → A q := fun q h => by rw [hAe]; exact h
  have hbA : ¬ A b := by rw [hAe]; exact Nat.not_le.mpr hbl
  intro H locs hP hD hS ls hl
  refine lv_aload_n hx hb dL_law_278 rfl (lv_at hl 1 rfl) ?_
  refine lv_aload_n hx hb dL_law_279 rfl (lv_at hl 0 rfl) ?_
  refine lv_iload_n hx hb dL_law_280 rfl (lv_at hl 3 rfl) ?_
  refine lv_iconst (v := 1) hx hb dL_law_281 (by decide) ?_
  refine lv_iadd hx hb dL_law_282 ?_
  obtain ⟨hg26, hf⟩ := ob_guard hf
  refine va_sld hx hb hX hbl hbA hS hg26 dL_law_283 ?_
  refine lv_aload_n hx hb dL_law_284 rfl (lv_at hl 0 rfl) ?_
  refine lv_iload_n hx hb dL_law_285 rfl (lv_at hl 3 rfl) ?_
  refine lv_iconst (v := 2) hx hb dL_law_286 (by decide) ?_
  refine lv_iadd hx hb dL_law_287 ?_
  obtain ⟨hg27, hf⟩ := ob_guard hf
  refine va_sld hx hb hX hbl hbA hS hg27 dL_law_288 ?_
  obtain ⟨r28, hr28, hf⟩ := ob_bind hf
  have hPc : va_P G.1 vwCl (ce_X5 G.2.1 a1 S1) H := zp_left hP
  have hDc : va_D A (ce_X5 G.2.1 a1 S1) := zd_left hD
  have hFc := zf_of hDc hS hA
  refine zc_wrL (cf := (fun u => ce_X5 G.2.1 a1 u)) (va_runV (As := [.int (xs (v3 + 1).toNatClampNeg), .int (xs (v3 + 2).toNatClampNeg)]) (rest := []) ⟨hx, hb, hml, hown, hts⟩ (c_X5_at l G a1 H.size S1 (xs (v3 + 1).toNatClampNeg) (xs (v3 + 2).toNatClampNeg) _ hr28) (cwV 2 hts gL_law_X5_at rfl rfl rfl (by decide +kernel) ⟨Nat.le_of_ble_eq_true rfl, Nat.le_of_ble_eq_true rfl⟩) ⟨PcM.blind, va_recv hK hPc (ci := 5) (q0 := 0) rfl rfl, PcM.ok hPc hDc hK hE hS hFc⟩ rfl rfl hl.1 rfl (lv_room (Nat.le_of_ble_eq_true rfl)) dL_law_289 ⟨Nat.le_refl _, Nat.le_refl _⟩) hP hD hS hA (fun H locs hP hD hS => ?_)
  refine lv_aload_n hx hb dL_law_292 rfl (lv_at hl 2 rfl) ?_
  refine lv_aload_n hx hb dL_law_293 rfl (lv_at hl 0 rfl) ?_
  refine lv_iload_n hx hb dL_law_294 rfl (lv_at hl 3 rfl) ?_
  refine lv_iconst (v := 1) hx hb dL_law_295 (by decide) ?_
  refine lv_iadd hx hb dL_law_296 ?_
  obtain ⟨hg29, hf⟩ := ob_guard hf
  refine va_sld hx hb hX hbl hbA hS hg29 dL_law_297 ?_
  refine lv_aload_n hx hb dL_law_298 rfl (lv_at hl 0 rfl) ?_
  refine lv_iload_n hx hb dL_law_299 rfl (lv_at hl 3 rfl) ?_
  refine lv_iconst (v := 2) hx hb dL_law_300 (by decide) ?_
  refine lv_iadd hx hb dL_law_301 ?_
  obtain ⟨hg30, hf⟩ := ob_guard hf
  refine va_sld hx hb hX hbl hbA hS hg30 dL_law_302 ?_
  obtain ⟨r31, hr31, hf⟩ := ob_bind hf
  have hPc : va_P G.1 vwCl (ce_X6 G.2.1 a2 S2) H := zp_right hP
  have hDc : va_D A (ce_X6 G.2.1 a2 S2) := zd_right hD
  have hFc := zf_of hDc hS hA
  refine zc_wrR (cf := (fun u => ce_X6 G.2.1 a2 u)) (va_runV (As := [.int (xs (v3 + 1).toNatClampNeg), .int (xs (v3 + 2).toNatClampNeg)]) (rest := [.int r28.1]) ⟨hx, hb, hml, hown, hts⟩ (c_X6_at l G a2 H.size S2 (xs (v3 + 1).toNatClampNeg) (xs (v3 + 2).toNatClampNeg) _ hr31) (cwV 2 hts gL_law_X6_at rfl rfl rfl (by decide +kernel) ⟨Nat.le_of_ble_eq_true rfl, Nat.le_of_ble_eq_true rfl⟩) ⟨PcM.blind, va_recv hK hPc (ci := 6) (q0 := 0) rfl rfl, PcM.ok hPc hDc hK hE hS hFc⟩ rfl rfl hl.1 rfl (lv_room (Nat.le_of_ble_eq_true rfl)) dL_law_303 ⟨Nat.le_refl _, Nat.le_refl _⟩) hP hD hS hA (fun H locs hP hD hS => ?_)
  refine lv_icmp_eq (tgt := 952) hx hb dL_law_306 (by decide) (fun c32 => ?_) (fun c32 => ?_)
  · replace hf := ob_pos c32 hf
    exact blk952 _ _ _ hf _ _ hP hD hS _ (lv_sub hl [0, 1, 2, 3] rfl)
  · replace hf := ob_neg c32 hf
    refine lv_iconst (v := 0) hx hb dL_law_309 (by decide) ?_
    exact absurd hf (by decide)
set_option maxHeartbeats 4000000 in
set_option maxRecDepth 100000 in
theorem law_case_5 {p : Program} {l : Launch} {e : Env} {s : State} {m : MethodId} {below : List Frame} {meth : Method} {c : Code} {b L : Nat} {xs : Nat → Int32} (C0 : lw_At p s m meth c b L xs) (G : zG) (a1 : AT_X5) (a2 : AT_X6) (hK : va_K G.1 vwCl [(G.2.1, .int)] s) (A : Nat → Prop) (hAe : A = fun q : Nat => s.heap.size ≤ q) (hE : EN G A s s.heap) (fu : Nat) (blk952 : ∀ (S1 : ST_X5) (S2 : ST_X6) (v3 : Int32), f_L_law_b952 L xs (f_L_law_b18 L xs fu) S1 S2 v3 = some 1 → ∀ (H : Heap) (locs : List Loc), va_P G.1 vwCl (ce_X5 G.2.1 a1 S1 ++ ce_X6 G.2.1 a2 S2) H → va_D A (ce_X5 G.2.1 a1 S1 ++ ce_X6 G.2.1 a2 S2) → va_S A s.heap H locs → ∀ (ls : Array Slot), lv_has ls 4 [(0, .ref b), (1, .ref a1.1), (2, .ref a2.1), (3, .int v3)] → W p l e room_1 s m #[Value.ref b] below meth c H locs 600000 7302250 (lw_Z below #[Value.ref b] s) (F0 m 952 ls [])) (S1 : ST_X5) (S2 : ST_X6) (v3 : Int32) (hf : (if inB (v3 + 1) L then (if inB (v3 + 2) L then ((f_X5_pass S1 (xs (v3 + 1).toNatClampNeg) (xs (v3 + 2).toNatClampNeg)).bind fun r35 => if inB (v3 + 1) L then (if inB (v3 + 2) L then ((f_X6_pass S2 (xs (v3 + 1).toNatClampNeg) (xs (v3 + 2).toNatClampNeg)).bind fun r38 => if r35.1 = r38.1 then (f_L_law_b952 L xs (f_L_law_b18 L xs fu) r35.2 r38.2 v3) else some 0) else none) else none) else none) else none) = some 1) : ∀ (H : Heap) (locs : List Loc), va_P G.1 vwCl (ce_X5 G.2.1 a1 S1 ++ ce_X6 G.2.1 a2 S2) H → va_D A (ce_X5 G.2.1 a1 S1 ++ ce_X6 G.2.1 a2 S2) → va_S A s.heap H locs → ∀ (ls : Array Slot), lv_has ls 4 [(0, .ref b), (1, .ref a1.1), (2, .ref a2.1), (3, .int v3)] → W p l e room_1 s m #[Value.ref b] below meth c H locs 600000 7302250 (lw_Z below #[Value.ref b] s) (F0 m 311 ls []) := by
  obtain ⟨hx, hb, hr, hml, hown, htsT, hX, hbl, hlocks, hgv⟩ := id C0
  have hown : s.vm.findClass RL = some m.cls := hown
  have hb : c.code = cL_law := hb
  have hts : ∀ w ∈ wsL_law, w.before #[Value.ref b] s = true := fun w h => htsT w (wsL_law_in w h)
  have hA : ∀ q : Nat, s.heap.size ≤ q → A q := fun q h => by rw [hAe]; exact h
  have hbA : ¬ A b := by rw [hAe]; exact Nat.not_le.mpr hbl
  intro H locs hP hD hS ls hl
  refine lv_aload_n hx hb dL_law_311 rfl (lv_at hl 1 rfl) ?_
  refine lv_aload_n hx hb dL_law_312 rfl (lv_at hl 0 rfl) ?_
  refine lv_iload_n hx hb dL_law_313 rfl (lv_at hl 3 rfl) ?_
  refine lv_iconst (v := 1) hx hb dL_law_314 (by decide) ?_
  refine lv_iadd hx hb dL_law_315 ?_
  obtain ⟨hg33, hf⟩ := ob_guard hf
  refine va_sld hx hb hX hbl hbA hS hg33 dL_law_316 ?_
  refine lv_aload_n hx hb dL_law_317 rfl (lv_at hl 0 rfl) ?_
  refine lv_iload_n hx hb dL_law_318 rfl (lv_at hl 3 rfl) ?_
  refine lv_iconst (v := 2) hx hb dL_law_319 (by decide) ?_
  refine lv_iadd hx hb dL_law_320 ?_
  obtain ⟨hg34, hf⟩ := ob_guard hf
  refine va_sld hx hb hX hbl hbA hS hg34 dL_law_321 ?_
  obtain ⟨r35, hr35, hf⟩ := ob_bind hf
  have hPc : va_P G.1 vwCl (ce_X5 G.2.1 a1 S1) H := zp_left hP
  have hDc : va_D A (ce_X5 G.2.1 a1 S1) := zd_left hD
  have hFc := zf_of hDc hS hA
  refine zc_wrL (cf := (fun u => ce_X5 G.2.1 a1 u)) (va_runV (As := [.int (xs (v3 + 1).toNatClampNeg), .int (xs (v3 + 2).toNatClampNeg)]) (rest := []) ⟨hx, hb, hml, hown, hts⟩ (c_X5_pass l G a1 H.size S1 (xs (v3 + 1).toNatClampNeg) (xs (v3 + 2).toNatClampNeg) _ hr35) (cwV 2 hts gL_law_X5_pass rfl rfl rfl (by decide +kernel) ⟨Nat.le_of_ble_eq_true rfl, Nat.le_of_ble_eq_true rfl⟩) ⟨PcM.blind, va_recv hK hPc (ci := 5) (q0 := 0) rfl rfl, PcM.ok hPc hDc hK hE hS hFc⟩ rfl rfl hl.1 rfl (lv_room (Nat.le_of_ble_eq_true rfl)) dL_law_322 ⟨Nat.le_refl _, Nat.le_refl _⟩) hP hD hS hA (fun H locs hP hD hS => ?_)
  refine lv_aload_n hx hb dL_law_325 rfl (lv_at hl 2 rfl) ?_
  refine lv_aload_n hx hb dL_law_326 rfl (lv_at hl 0 rfl) ?_
  refine lv_iload_n hx hb dL_law_327 rfl (lv_at hl 3 rfl) ?_
  refine lv_iconst (v := 1) hx hb dL_law_328 (by decide) ?_
  refine lv_iadd hx hb dL_law_329 ?_
  obtain ⟨hg36, hf⟩ := ob_guard hf
  refine va_sld hx hb hX hbl hbA hS hg36 dL_law_330 ?_
  refine lv_aload_n hx hb dL_law_331 rfl (lv_at hl 0 rfl) ?_
  refine lv_iload_n hx hb dL_law_332 rfl (lv_at hl 3 rfl) ?_
  refine lv_iconst (v := 2) hx hb dL_law_333 (by decide) ?_
  refine lv_iadd hx hb dL_law_334 ?_
  obtain ⟨hg37, hf⟩ := ob_guard hf
  refine va_sld hx hb hX hbl hbA hS hg37 dL_law_335 ?_
  obtain ⟨r38, hr38, hf⟩ := ob_bind hf
  have hPc : va_P G.1 vwCl (ce_X6 G.2.1 a2 S2) H := zp_right hP
  have hDc : va_D A (ce_X6 G.2.1 a2 S2) := zd_right hD
  have hFc := zf_of hDc hS hA
  refine zc_wrR (cf := (fun u => ce_X6 G.2.1 a2 u)) (va_runV (As := [.int (xs (v3 + 1).toNatClampNeg), .int (xs (v3 + 2).toNatClampNeg)]) (rest := [.int r35.1]) ⟨hx, hb, hml, hown, hts⟩ (c_X6_pass l G a2 H.size S2 (xs (v3 + 1).toNatClampNeg) (xs (v3 + 2).toNatClampNeg) _ hr38) (cwV 2 hts gL_law_X6_pass rfl rfl rfl (by decide +kernel) ⟨Nat.le_of_ble_eq_true rfl, Nat.le_of_ble_eq_true rfl⟩) ⟨PcM.blind, va_recv hK hPc (ci := 6) (q0 := 0) rfl rfl, PcM.ok hPc hDc hK hE hS hFc⟩ rfl rfl hl.1 rfl (lv_room (Nat.le_of_ble_eq_true rfl)) dL_law_336 ⟨Nat.le_refl _, Nat.le_refl _⟩) hP hD hS hA (fun H locs hP hD hS => ?_)
  refine lv_icmp_eq (tgt := 952) hx hb dL_law_339 (by decide) (fun c39 => ?_) (fun c39 => ?_)
  · replace hf := ob_pos c39 hf
    exact blk952 _ _ _ hf _ _ hP hD hS _ (lv_sub hl [0, 1, 2, 3] rfl)
  · replace hf := ob_neg c39 hf
    refine lv_iconst (v := 0) hx hb dL_law_342 (by decide) ?_
    exact absurd hf (by decide)
set_option maxHeartbeats 4000000 in
set_option maxRecDepth 100000 in
theorem law_case_6 {p : Program} {l : Launch} {e : Env} {s : State} {m : MethodId} {below : List Frame} {meth : Method} {c : Code} {b L : Nat} {xs : Nat → Int32} (C0 : lw_At p s m meth c b L xs) (G : zG) (a1 : AT_X5) (a2 : AT_X6) (hK : va_K G.1 vwCl [(G.2.1, .int)] s) (A : Nat → Prop) (hAe : A = fun q : Nat => s.heap.size ≤ q) (hE : EN G A s s.heap) (fu : Nat) (blk952 : ∀ (S1 : ST_X5) (S2 : ST_X6) (v3 : Int32), f_L_law_b952 L xs (f_L_law_b18 L xs fu) S1 S2 v3 = some 1 → ∀ (H : Heap) (locs : List Loc), va_P G.1 vwCl (ce_X5 G.2.1 a1 S1 ++ ce_X6 G.2.1 a2 S2) H → va_D A (ce_X5 G.2.1 a1 S1 ++ ce_X6 G.2.1 a2 S2) → va_S A s.heap H locs → ∀ (ls : Array Slot), lv_has ls 4 [(0, .ref b), (1, .ref a1.1), (2, .ref a2.1), (3, .int v3)] → W p l e room_1 s m #[Value.ref b] below meth c H locs 600000 7302250 (lw_Z below #[Value.ref b] s) (F0 m 952 ls [])) (S1 : ST_X5) (S2 : ST_X6) (v3 : Int32) (hf : (if inB (v3 + 1) L then ((f_X5_stand S1 (xs (v3 + 1).toNatClampNeg)).bind fun r41 => if inB (v3 + 1) L then ((f_X6_stand S2 (xs (v3 + 1).toNatClampNeg)).bind fun r43 => if r41.1 = r43.1 then (f_L_law_b952 L xs (f_L_law_b18 L xs fu) r41.2 r43.2 v3) else some 0) else none) else none) = some 1) : ∀ (H : Heap) (locs : List Loc), va_P G.1 vwCl (ce_X5 G.2.1 a1 S1 ++ ce_X6 G.2.1 a2 S2) H → va_D A (ce_X5 G.2.1 a1 S1 ++ ce_X6 G.2.1 a2 S2) → va_S A s.heap H locs → ∀ (ls : Array Slot), lv_has ls 4 [(0, .ref b), (1, .ref a1.1), (2, .ref a2.1), (3, .int v3)] → W p l e room_1 s m #[Value.ref b] below meth c H locs 600000 7302250 (lw_Z below #[Value.ref b] s) (F0 m 344 ls []) := by
  obtain ⟨hx, hb, hr, hml, hown, htsT, hX, hbl, hlocks, hgv⟩ := id C0
  have hown : s.vm.findClass RL = some m.cls := hown
  have hb : c.code = cL_law := hb
  have hts : ∀ w ∈ wsL_law, w.before #[Value.ref b] s = true := fun w h => htsT w (wsL_law_in w h)
  have hA : ∀ q : Nat, s.heap.size ≤ q → A q := fun q h => by rw [hAe]; exact h
  have hbA : ¬ A b := by rw [hAe]; exact Nat.not_le.mpr hbl
  intro H locs hP hD hS ls hl
  refine lv_aload_n hx hb dL_law_344 rfl (lv_at hl 1 rfl) ?_
  refine lv_aload_n hx hb dL_law_345 rfl (lv_at hl 0 rfl) ?_
  refine lv_iload_n hx hb dL_law_346 rfl (lv_at hl 3 rfl) ?_
  refine lv_iconst (v := 1) hx hb dL_law_347 (by decide) ?_
  refine lv_iadd hx hb dL_law_348 ?_
  obtain ⟨hg40, hf⟩ := ob_guard hf
  refine va_sld hx hb hX hbl hbA hS hg40 dL_law_349 ?_
  obtain ⟨r41, hr41, hf⟩ := ob_bind hf
  have hPc : va_P G.1 vwCl (ce_X5 G.2.1 a1 S1) H := zp_left hP
  have hDc : va_D A (ce_X5 G.2.1 a1 S1) := zd_left hD
  have hFc := zf_of hDc hS hA
  refine zc_wrL (cf := (fun u => ce_X5 G.2.1 a1 u)) (va_runV (As := [.int (xs (v3 + 1).toNatClampNeg)]) (rest := []) ⟨hx, hb, hml, hown, hts⟩ (c_X5_stand l G a1 H.size S1 (xs (v3 + 1).toNatClampNeg) _ hr41) (cwV 1 hts gL_law_X5_stand rfl rfl rfl (by decide +kernel) ⟨Nat.le_of_ble_eq_true rfl, Nat.le_of_ble_eq_true rfl⟩) ⟨PcM.blind, va_recv hK hPc (ci := 5) (q0 := 0) rfl rfl, PcM.ok hPc hDc hK hE hS hFc⟩ rfl rfl hl.1 rfl (lv_room (Nat.le_of_ble_eq_true rfl)) dL_law_350 ⟨Nat.le_refl _, Nat.le_refl _⟩) hP hD hS hA (fun H locs hP hD hS => ?_)
  refine lv_aload_n hx hb dL_law_353 rfl (lv_at hl 2 rfl) ?_
  refine lv_aload_n hx hb dL_law_354 rfl (lv_at hl 0 rfl) ?_
  refine lv_iload_n hx hb dL_law_355 rfl (lv_at hl 3 rfl) ?_
  refine lv_iconst (v := 1) hx hb dL_law_356 (by decide) ?_
  refine lv_iadd hx hb dL_law_357 ?_
  obtain ⟨hg42, hf⟩ := ob_guard hf
  refine va_sld hx hb hX hbl hbA hS hg42 dL_law_358 ?_
  obtain ⟨r43, hr43, hf⟩ := ob_bind hf
  have hPc : va_P G.1 vwCl (ce_X6 G.2.1 a2 S2) H := zp_right hP
  have hDc : va_D A (ce_X6 G.2.1 a2 S2) := zd_right hD
  have hFc := zf_of hDc hS hA
  refine zc_wrR (cf := (fun u => ce_X6 G.2.1 a2 u)) (va_runV (As := [.int (xs (v3 + 1).toNatClampNeg)]) (rest := [.int r41.1]) ⟨hx, hb, hml, hown, hts⟩ (c_X6_stand l G a2 H.size S2 (xs (v3 + 1).toNatClampNeg) _ hr43) (cwV 1 hts gL_law_X6_stand rfl rfl rfl (by decide +kernel) ⟨Nat.le_of_ble_eq_true rfl, Nat.le_of_ble_eq_true rfl⟩) ⟨PcM.blind, va_recv hK hPc (ci := 6) (q0 := 0) rfl rfl, PcM.ok hPc hDc hK hE hS hFc⟩ rfl rfl hl.1 rfl (lv_room (Nat.le_of_ble_eq_true rfl)) dL_law_359 ⟨Nat.le_refl _, Nat.le_refl _⟩) hP hD hS hA (fun H locs hP hD hS => ?_)
  refine lv_icmp_eq (tgt := 952) hx hb dL_law_362 (by decide) (fun c44 => ?_) (fun c44 => ?_)
  · replace hf := ob_pos c44 hf
    exact blk952 _ _ _ hf _ _ hP hD hS _ (lv_sub hl [0, 1, 2, 3] rfl)
  · replace hf := ob_neg c44 hf
    refine lv_iconst (v := 0) hx hb dL_law_365 (by decide) ?_
    exact absurd hf (by decide)
set_option maxHeartbeats 4000000 in
set_option maxRecDepth 100000 in
theorem law_case_7 {p : Program} {l : Launch} {e : Env} {s : State} {m : MethodId} {below : List Frame} {meth : Method} {c : Code} {b L : Nat} {xs : Nat → Int32} (C0 : lw_At p s m meth c b L xs) (G : zG) (a1 : AT_X5) (a2 : AT_X6) (hK : va_K G.1 vwCl [(G.2.1, .int)] s) (A : Nat → Prop) (hAe : A = fun q : Nat => s.heap.size ≤ q) (hE : EN G A s s.heap) (fu : Nat) (blk952 : ∀ (S1 : ST_X5) (S2 : ST_X6) (v3 : Int32), f_L_law_b952 L xs (f_L_law_b18 L xs fu) S1 S2 v3 = some 1 → ∀ (H : Heap) (locs : List Loc), va_P G.1 vwCl (ce_X5 G.2.1 a1 S1 ++ ce_X6 G.2.1 a2 S2) H → va_D A (ce_X5 G.2.1 a1 S1 ++ ce_X6 G.2.1 a2 S2) → va_S A s.heap H locs → ∀ (ls : Array Slot), lv_has ls 4 [(0, .ref b), (1, .ref a1.1), (2, .ref a2.1), (3, .int v3)] → W p l e room_1 s m #[Value.ref b] below meth c H locs 600000 7302250 (lw_Z below #[Value.ref b] s) (F0 m 952 ls [])) (S1 : ST_X5) (S2 : ST_X6) (v3 : Int32) (hf : (if inB (v3 + 1) L then ((f_X5_rest S1 (xs (v3 + 1).toNatClampNeg)).bind fun r46 => if inB (v3 + 1) L then ((f_X6_rest S2 (xs (v3 + 1).toNatClampNeg)).bind fun r48 => if r46.1 = r48.1 then (f_L_law_b952 L xs (f_L_law_b18 L xs fu) r46.2 r48.2 v3) else some 0) else none) else none) = some 1) : ∀ (H : Heap) (locs : List Loc), va_P G.1 vwCl (ce_X5 G.2.1 a1 S1 ++ ce_X6 G.2.1 a2 S2) H → va_D A (ce_X5 G.2.1 a1 S1 ++ ce_X6 G.2.1 a2 S2) → va_S A s.heap H locs → ∀ (ls : Array Slot), lv_has ls 4 [(0, .ref b), (1, .ref a1.1), (2, .ref a2.1), (3, .int v3)] → W p l e room_1 s m #[Value.ref b] below meth c H locs 600000 7302250 (lw_Z below #[Value.ref b] s) (F0 m 367 ls []) := by
  obtain ⟨hx, hb, hr, hml, hown, htsT, hX, hbl, hlocks, hgv⟩ := id C0
  have hown : s.vm.findClass RL = some m.cls := hown
  have hb : c.code = cL_law := hb
  have hts : ∀ w ∈ wsL_law, w.before #[Value.ref b] s = true := fun w h => htsT w (wsL_law_in w h)
  have hA : ∀ q : Nat, s.heap.size ≤ q → A q := fun q h => by rw [hAe]; exact h
  have hbA : ¬ A b := by rw [hAe]; exact Nat.not_le.mpr hbl
  intro H locs hP hD hS ls hl
  refine lv_aload_n hx hb dL_law_367 rfl (lv_at hl 1 rfl) ?_
  refine lv_aload_n hx hb dL_law_368 rfl (lv_at hl 0 rfl) ?_
  refine lv_iload_n hx hb dL_law_369 rfl (lv_at hl 3 rfl) ?_
  refine lv_iconst (v := 1) hx hb dL_law_370 (by decide) ?_
  refine lv_iadd hx hb dL_law_371 ?_
  obtain ⟨hg45, hf⟩ := ob_guard hf
  refine va_sld hx hb hX hbl hbA hS hg45 dL_law_372 ?_
  obtain ⟨r46, hr46, hf⟩ := ob_bind hf
  have hPc : va_P G.1 vwCl (ce_X5 G.2.1 a1 S1) H := zp_left hP
  have hDc : va_D A (ce_X5 G.2.1 a1 S1) := zd_left hD
  have hFc := zf_of hDc hS hA
  refine zc_wrL (cf := (fun u => ce_X5 G.2.1 a1 u)) (va_runV (As := [.int (xs (v3 + 1).toNatClampNeg)]) (rest := []) ⟨hx, hb, hml, hown, hts⟩ (c_X5_rest l G a1 H.size S1 (xs (v3 + 1).toNatClampNeg) _ hr46) (cwV 1 hts gL_law_X5_rest rfl rfl rfl (by decide +kernel) ⟨Nat.le_of_ble_eq_true rfl, Nat.le_of_ble_eq_true rfl⟩) ⟨PcM.blind, va_recv hK hPc (ci := 5) (q0 := 0) rfl rfl, PcM.ok hPc hDc hK hE hS hFc⟩ rfl rfl hl.1 rfl (lv_room (Nat.le_of_ble_eq_true rfl)) dL_law_373 ⟨Nat.le_refl _, Nat.le_refl _⟩) hP hD hS hA (fun H locs hP hD hS => ?_)
  refine lv_aload_n hx hb dL_law_376 rfl (lv_at hl 2 rfl) ?_
  refine lv_aload_n hx hb dL_law_377 rfl (lv_at hl 0 rfl) ?_
  refine lv_iload_n hx hb dL_law_378 rfl (lv_at hl 3 rfl) ?_
  refine lv_iconst (v := 1) hx hb dL_law_379 (by decide) ?_
  refine lv_iadd hx hb dL_law_380 ?_
  obtain ⟨hg47, hf⟩ := ob_guard hf
  refine va_sld hx hb hX hbl hbA hS hg47 dL_law_381 ?_
  obtain ⟨r48, hr48, hf⟩ := ob_bind hf
  have hPc : va_P G.1 vwCl (ce_X6 G.2.1 a2 S2) H := zp_right hP
  have hDc : va_D A (ce_X6 G.2.1 a2 S2) := zd_right hD
  have hFc := zf_of hDc hS hA
  refine zc_wrR (cf := (fun u => ce_X6 G.2.1 a2 u)) (va_runV (As := [.int (xs (v3 + 1).toNatClampNeg)]) (rest := [.int r46.1]) ⟨hx, hb, hml, hown, hts⟩ (c_X6_rest l G a2 H.size S2 (xs (v3 + 1).toNatClampNeg) _ hr48) (cwV 1 hts gL_law_X6_rest rfl rfl rfl (by decide +kernel) ⟨Nat.le_of_ble_eq_true rfl, Nat.le_of_ble_eq_true rfl⟩) ⟨PcM.blind, va_recv hK hPc (ci := 6) (q0 := 0) rfl rfl, PcM.ok hPc hDc hK hE hS hFc⟩ rfl rfl hl.1 rfl (lv_room (Nat.le_of_ble_eq_true rfl)) dL_law_382 ⟨Nat.le_refl _, Nat.le_refl _⟩) hP hD hS hA (fun H locs hP hD hS => ?_)
  refine lv_icmp_eq (tgt := 952) hx hb dL_law_385 (by decide) (fun c49 => ?_) (fun c49 => ?_)
  · replace hf := ob_pos c49 hf
    exact blk952 _ _ _ hf _ _ hP hD hS _ (lv_sub hl [0, 1, 2, 3] rfl)
  · replace hf := ob_neg c49 hf
    refine lv_iconst (v := 0) hx hb dL_law_388 (by decide) ?_
    exact absurd hf (by decide)
set_option maxHeartbeats 4000000 in
set_option maxRecDepth 100000 in
theorem law_case_8 {p : Program} {l : Launch} {e : Env} {s : State} {m : MethodId} {below : List Frame} {meth : Method} {c : Code} {b L : Nat} {xs : Nat → Int32} (C0 : lw_At p s m meth c b L xs) (G : zG) (a1 : AT_X5) (a2 : AT_X6) (hK : va_K G.1 vwCl [(G.2.1, .int)] s) (A : Nat → Prop) (hAe : A = fun q : Nat => s.heap.size ≤ q) (hE : EN G A s s.heap) (fu : Nat) (blk952 : ∀ (S1 : ST_X5) (S2 : ST_X6) (v3 : Int32), f_L_law_b952 L xs (f_L_law_b18 L xs fu) S1 S2 v3 = some 1 → ∀ (H : Heap) (locs : List Loc), va_P G.1 vwCl (ce_X5 G.2.1 a1 S1 ++ ce_X6 G.2.1 a2 S2) H → va_D A (ce_X5 G.2.1 a1 S1 ++ ce_X6 G.2.1 a2 S2) → va_S A s.heap H locs → ∀ (ls : Array Slot), lv_has ls 4 [(0, .ref b), (1, .ref a1.1), (2, .ref a2.1), (3, .int v3)] → W p l e room_1 s m #[Value.ref b] below meth c H locs 600000 7302250 (lw_Z below #[Value.ref b] s) (F0 m 952 ls [])) (S1 : ST_X5) (S2 : ST_X6) (v3 : Int32) (hf : (if inB (v3 + 1) L then (if inB (v3 + 2) L then ((f_X5_underline S1 (xs (v3 + 1).toNatClampNeg) (xs (v3 + 2).toNatClampNeg)).bind fun r52 => if inB (v3 + 1) L then (if inB (v3 + 2) L then ((f_X6_underline S2 (xs (v3 + 1).toNatClampNeg) (xs (v3 + 2).toNatClampNeg)).bind fun r55 => if r52.1 = r55.1 then (f_L_law_b952 L xs (f_L_law_b18 L xs fu) r52.2 r55.2 v3) else some 0) else none) else none) else none) else none) = some 1) : ∀ (H : Heap) (locs : List Loc), va_P G.1 vwCl (ce_X5 G.2.1 a1 S1 ++ ce_X6 G.2.1 a2 S2) H → va_D A (ce_X5 G.2.1 a1 S1 ++ ce_X6 G.2.1 a2 S2) → va_S A s.heap H locs → ∀ (ls : Array Slot), lv_has ls 4 [(0, .ref b), (1, .ref a1.1), (2, .ref a2.1), (3, .int v3)] → W p l e room_1 s m #[Value.ref b] below meth c H locs 600000 7302250 (lw_Z below #[Value.ref b] s) (F0 m 390 ls []) := by
  obtain ⟨hx, hb, hr, hml, hown, htsT, hX, hbl, hlocks, hgv⟩ := id C0
  have hown : s.vm.findClass RL = some m.cls := hown
  have hb : c.code = cL_law := hb
  have hts : ∀ w ∈ wsL_law, w.before #[Value.ref b] s = true := fun w h => htsT w (wsL_law_in w h)
  have hA : ∀ q : Nat, s.heap.size ≤ q → A q := fun q h => by rw [hAe]; exact h
  have hbA : ¬ A b := by rw [hAe]; exact Nat.not_le.mpr hbl
  intro H locs hP hD hS ls hl
  refine lv_aload_n hx hb dL_law_390 rfl (lv_at hl 1 rfl) ?_
  refine lv_aload_n hx hb dL_law_391 rfl (lv_at hl 0 rfl) ?_
  refine lv_iload_n hx hb dL_law_392 rfl (lv_at hl 3 rfl) ?_
  refine lv_iconst (v := 1) hx hb dL_law_393 (by decide) ?_
  refine lv_iadd hx hb dL_law_394 ?_
  obtain ⟨hg50, hf⟩ := ob_guard hf
  refine va_sld hx hb hX hbl hbA hS hg50 dL_law_395 ?_
  refine lv_aload_n hx hb dL_law_396 rfl (lv_at hl 0 rfl) ?_
  refine lv_iload_n hx hb dL_law_397 rfl (lv_at hl 3 rfl) ?_
  refine lv_iconst (v := 2) hx hb dL_law_398 (by decide) ?_
  refine lv_iadd hx hb dL_law_399 ?_
  obtain ⟨hg51, hf⟩ := ob_guard hf
  refine va_sld hx hb hX hbl hbA hS hg51 dL_law_400 ?_
  obtain ⟨r52, hr52, hf⟩ := ob_bind hf
  have hPc : va_P G.1 vwCl (ce_X5 G.2.1 a1 S1) H := zp_left hP
  have hDc : va_D A (ce_X5 G.2.1 a1 S1) := zd_left hD
  have hFc := zf_of hDc hS hA
  refine zc_wrL (cf := (fun u => ce_X5 G.2.1 a1 u)) (va_runV (As := [.int (xs (v3 + 1).toNatClampNeg), .int (xs (v3 + 2).toNatClampNeg)]) (rest := []) ⟨hx, hb, hml, hown, hts⟩ (c_X5_underline l G a1 H.size S1 (xs (v3 + 1).toNatClampNeg) (xs (v3 + 2).toNatClampNeg) _ hr52) (cwV 2 hts gL_law_X5_underline rfl rfl rfl (by decide +kernel) ⟨Nat.le_of_ble_eq_true rfl, Nat.le_of_ble_eq_true rfl⟩) ⟨PcM.blind, va_recv hK hPc (ci := 5) (q0 := 0) rfl rfl, PcM.ok hPc hDc hK hE hS hFc⟩ rfl rfl hl.1 rfl (lv_room (Nat.le_of_ble_eq_true rfl)) dL_law_401 ⟨Nat.le_refl _, Nat.le_refl _⟩) hP hD hS hA (fun H locs hP hD hS => ?_)
  refine lv_aload_n hx hb dL_law_404 rfl (lv_at hl 2 rfl) ?_
  refine lv_aload_n hx hb dL_law_405 rfl (lv_at hl 0 rfl) ?_
  refine lv_iload_n hx hb dL_law_406 rfl (lv_at hl 3 rfl) ?_
  refine lv_iconst (v := 1) hx hb dL_law_407 (by decide) ?_
  refine lv_iadd hx hb dL_law_408 ?_
  obtain ⟨hg53, hf⟩ := ob_guard hf
  refine va_sld hx hb hX hbl hbA hS hg53 dL_law_409 ?_
  refine lv_aload_n hx hb dL_law_410 rfl (lv_at hl 0 rfl) ?_
  refine lv_iload_n hx hb dL_law_411 rfl (lv_at hl 3 rfl) ?_
  refine lv_iconst (v := 2) hx hb dL_law_412 (by decide) ?_
  refine lv_iadd hx hb dL_law_413 ?_
  obtain ⟨hg54, hf⟩ := ob_guard hf
  refine va_sld hx hb hX hbl hbA hS hg54 dL_law_414 ?_
  obtain ⟨r55, hr55, hf⟩ := ob_bind hf
  have hPc : va_P G.1 vwCl (ce_X6 G.2.1 a2 S2) H := zp_right hP
  have hDc : va_D A (ce_X6 G.2.1 a2 S2) := zd_right hD
  have hFc := zf_of hDc hS hA
  refine zc_wrR (cf := (fun u => ce_X6 G.2.1 a2 u)) (va_runV (As := [.int (xs (v3 + 1).toNatClampNeg), .int (xs (v3 + 2).toNatClampNeg)]) (rest := [.int r52.1]) ⟨hx, hb, hml, hown, hts⟩ (c_X6_underline l G a2 H.size S2 (xs (v3 + 1).toNatClampNeg) (xs (v3 + 2).toNatClampNeg) _ hr55) (cwV 2 hts gL_law_X6_underline rfl rfl rfl (by decide +kernel) ⟨Nat.le_of_ble_eq_true rfl, Nat.le_of_ble_eq_true rfl⟩) ⟨PcM.blind, va_recv hK hPc (ci := 6) (q0 := 0) rfl rfl, PcM.ok hPc hDc hK hE hS hFc⟩ rfl rfl hl.1 rfl (lv_room (Nat.le_of_ble_eq_true rfl)) dL_law_415 ⟨Nat.le_refl _, Nat.le_refl _⟩) hP hD hS hA (fun H locs hP hD hS => ?_)
  refine lv_icmp_eq (tgt := 952) hx hb dL_law_418 (by decide) (fun c56 => ?_) (fun c56 => ?_)
  · replace hf := ob_pos c56 hf
    exact blk952 _ _ _ hf _ _ hP hD hS _ (lv_sub hl [0, 1, 2, 3] rfl)
  · replace hf := ob_neg c56 hf
    refine lv_iconst (v := 0) hx hb dL_law_421 (by decide) ?_
    exact absurd hf (by decide)
set_option maxHeartbeats 4000000 in
set_option maxRecDepth 100000 in
theorem law_case_9 {p : Program} {l : Launch} {e : Env} {s : State} {m : MethodId} {below : List Frame} {meth : Method} {c : Code} {b L : Nat} {xs : Nat → Int32} (C0 : lw_At p s m meth c b L xs) (G : zG) (a1 : AT_X5) (a2 : AT_X6) (hK : va_K G.1 vwCl [(G.2.1, .int)] s) (A : Nat → Prop) (hAe : A = fun q : Nat => s.heap.size ≤ q) (hE : EN G A s s.heap) (fu : Nat) (blk952 : ∀ (S1 : ST_X5) (S2 : ST_X6) (v3 : Int32), f_L_law_b952 L xs (f_L_law_b18 L xs fu) S1 S2 v3 = some 1 → ∀ (H : Heap) (locs : List Loc), va_P G.1 vwCl (ce_X5 G.2.1 a1 S1 ++ ce_X6 G.2.1 a2 S2) H → va_D A (ce_X5 G.2.1 a1 S1 ++ ce_X6 G.2.1 a2 S2) → va_S A s.heap H locs → ∀ (ls : Array Slot), lv_has ls 4 [(0, .ref b), (1, .ref a1.1), (2, .ref a2.1), (3, .int v3)] → W p l e room_1 s m #[Value.ref b] below meth c H locs 600000 7302250 (lw_Z below #[Value.ref b] s) (F0 m 952 ls [])) (S1 : ST_X5) (S2 : ST_X6) (v3 : Int32) (hf : (if inB (v3 + 1) L then (if inB (v3 + 2) L then ((f_X5_fresh S1 (xs (v3 + 1).toNatClampNeg) (xs (v3 + 2).toNatClampNeg)).bind fun r59 => if inB (v3 + 1) L then (if inB (v3 + 2) L then ((f_X6_fresh S2 (xs (v3 + 1).toNatClampNeg) (xs (v3 + 2).toNatClampNeg)).bind fun r62 => if r59.1 = r62.1 then (f_L_law_b952 L xs (f_L_law_b18 L xs fu) r59.2 r62.2 v3) else some 0) else none) else none) else none) else none) = some 1) : ∀ (H : Heap) (locs : List Loc), va_P G.1 vwCl (ce_X5 G.2.1 a1 S1 ++ ce_X6 G.2.1 a2 S2) H → va_D A (ce_X5 G.2.1 a1 S1 ++ ce_X6 G.2.1 a2 S2) → va_S A s.heap H locs → ∀ (ls : Array Slot), lv_has ls 4 [(0, .ref b), (1, .ref a1.1), (2, .ref a2.1), (3, .int v3)] → W p l e room_1 s m #[Value.ref b] below meth c H locs 600000 7302250 (lw_Z below #[Value.ref b] s) (F0 m 423 ls []) := by
  obtain ⟨hx, hb, hr, hml, hown, htsT, hX, hbl, hlocks, hgv⟩ := id C0
  have hown : s.vm.findClass RL = some m.cls := hown
  have hb : c.code = cL_law := hb
  have hts : ∀ w ∈ wsL_law, w.before #[Value.ref b] s = true := fun w h => htsT w (wsL_law_in w h)
  have hA : ∀ q : Nat, s.heap.size ≤ q → A q := fun q h => by rw [hAe]; exact h
  have hbA : ¬ A b := by rw [hAe]; exact Nat.not_le.mpr hbl
  intro H locs hP hD hS ls hl
  refine lv_aload_n hx hb dL_law_423 rfl (lv_at hl 1 rfl) ?_
  refine lv_aload_n hx hb dL_law_424 rfl (lv_at hl 0 rfl) ?_
  refine lv_iload_n hx hb dL_law_425 rfl (lv_at hl 3 rfl) ?_
  refine lv_iconst (v := 1) hx hb dL_law_426 (by decide) ?_
  refine lv_iadd hx hb dL_law_427 ?_
  obtain ⟨hg57, hf⟩ := ob_guard hf
  refine va_sld hx hb hX hbl hbA hS hg57 dL_law_428 ?_
  refine lv_aload_n hx hb dL_law_429 rfl (lv_at hl 0 rfl) ?_
  refine lv_iload_n hx hb dL_law_430 rfl (lv_at hl 3 rfl) ?_
  refine lv_iconst (v := 2) hx hb dL_law_431 (by decide) ?_
  refine lv_iadd hx hb dL_law_432 ?_
  obtain ⟨hg58, hf⟩ := ob_guard hf
  refine va_sld hx hb hX hbl hbA hS hg58 dL_law_433 ?_
  obtain ⟨r59, hr59, hf⟩ := ob_bind hf
  have hPc : va_P G.1 vwCl (ce_X5 G.2.1 a1 S1) H := zp_left hP
  have hDc : va_D A (ce_X5 G.2.1 a1 S1) := zd_left hD
  have hFc := zf_of hDc hS hA
  refine zc_wrL (cf := (fun u => ce_X5 G.2.1 a1 u)) (va_runV (As := [.int (xs (v3 + 1).toNatClampNeg), .int (xs (v3 + 2).toNatClampNeg)]) (rest := []) ⟨hx, hb, hml, hown, hts⟩ (c_X5_fresh l G a1 H.size S1 (xs (v3 + 1).toNatClampNeg) (xs (v3 + 2).toNatClampNeg) _ hr59) (cwV 2 hts gL_law_X5_fresh rfl rfl rfl (by decide +kernel) ⟨Nat.le_of_ble_eq_true rfl, Nat.le_of_ble_eq_true rfl⟩) ⟨PcM.blind, va_recv hK hPc (ci := 5) (q0 := 0) rfl rfl, PcM.ok hPc hDc hK hE hS hFc⟩ rfl rfl hl.1 rfl (lv_room (Nat.le_of_ble_eq_true rfl)) dL_law_434 ⟨Nat.le_refl _, Nat.le_refl _⟩) hP hD hS hA (fun H locs hP hD hS => ?_)
  refine lv_aload_n hx hb dL_law_437 rfl (lv_at hl 2 rfl) ?_
  refine lv_aload_n hx hb dL_law_438 rfl (lv_at hl 0 rfl) ?_
  refine lv_iload_n hx hb dL_law_439 rfl (lv_at hl 3 rfl) ?_
  refine lv_iconst (v := 1) hx hb dL_law_440 (by decide) ?_
  refine lv_iadd hx hb dL_law_441 ?_
  obtain ⟨hg60, hf⟩ := ob_guard hf
  refine va_sld hx hb hX hbl hbA hS hg60 dL_law_442 ?_
  refine lv_aload_n hx hb dL_law_443 rfl (lv_at hl 0 rfl) ?_
  refine lv_iload_n hx hb dL_law_444 rfl (lv_at hl 3 rfl) ?_
  refine lv_iconst (v := 2) hx hb dL_law_445 (by decide) ?_
  refine lv_iadd hx hb dL_law_446 ?_
  obtain ⟨hg61, hf⟩ := ob_guard hf
  refine va_sld hx hb hX hbl hbA hS hg61 dL_law_447 ?_
  obtain ⟨r62, hr62, hf⟩ := ob_bind hf
  have hPc : va_P G.1 vwCl (ce_X6 G.2.1 a2 S2) H := zp_right hP
  have hDc : va_D A (ce_X6 G.2.1 a2 S2) := zd_right hD
  have hFc := zf_of hDc hS hA
  refine zc_wrR (cf := (fun u => ce_X6 G.2.1 a2 u)) (va_runV (As := [.int (xs (v3 + 1).toNatClampNeg), .int (xs (v3 + 2).toNatClampNeg)]) (rest := [.int r59.1]) ⟨hx, hb, hml, hown, hts⟩ (c_X6_fresh l G a2 H.size S2 (xs (v3 + 1).toNatClampNeg) (xs (v3 + 2).toNatClampNeg) _ hr62) (cwV 2 hts gL_law_X6_fresh rfl rfl rfl (by decide +kernel) ⟨Nat.le_of_ble_eq_true rfl, Nat.le_of_ble_eq_true rfl⟩) ⟨PcM.blind, va_recv hK hPc (ci := 6) (q0 := 0) rfl rfl, PcM.ok hPc hDc hK hE hS hFc⟩ rfl rfl hl.1 rfl (lv_room (Nat.le_of_ble_eq_true rfl)) dL_law_448 ⟨Nat.le_refl _, Nat.le_refl _⟩) hP hD hS hA (fun H locs hP hD hS => ?_)
  refine lv_icmp_eq (tgt := 952) hx hb dL_law_451 (by decide) (fun c63 => ?_) (fun c63 => ?_)
  · replace hf := ob_pos c63 hf
    exact blk952 _ _ _ hf _ _ hP hD hS _ (lv_sub hl [0, 1, 2, 3] rfl)
  · replace hf := ob_neg c63 hf
    refine lv_iconst (v := 0) hx hb dL_law_454 (by decide) ?_
    exact absurd hf (by decide)
set_option maxHeartbeats 4000000 in
set_option maxRecDepth 100000 in
theorem law_case_10 {p : Program} {l : Launch} {e : Env} {s : State} {m : MethodId} {below : List Frame} {meth : Method} {c : Code} {b L : Nat} {xs : Nat → Int32} (C0 : lw_At p s m meth c b L xs) (G : zG) (a1 : AT_X5) (a2 : AT_X6) (hK : va_K G.1 vwCl [(G.2.1, .int)] s) (A : Nat → Prop) (hAe : A = fun q : Nat => s.heap.size ≤ q) (hE : EN G A s s.heap) (fu : Nat) (blk952 : ∀ (S1 : ST_X5) (S2 : ST_X6) (v3 : Int32), f_L_law_b952 L xs (f_L_law_b18 L xs fu) S1 S2 v3 = some 1 → ∀ (H : Heap) (locs : List Loc), va_P G.1 vwCl (ce_X5 G.2.1 a1 S1 ++ ce_X6 G.2.1 a2 S2) H → va_D A (ce_X5 G.2.1 a1 S1 ++ ce_X6 G.2.1 a2 S2) → va_S A s.heap H locs → ∀ (ls : Array Slot), lv_has ls 4 [(0, .ref b), (1, .ref a1.1), (2, .ref a2.1), (3, .int v3)] → W p l e room_1 s m #[Value.ref b] below meth c H locs 600000 7302250 (lw_Z below #[Value.ref b] s) (F0 m 952 ls [])) (S1 : ST_X5) (S2 : ST_X6) (v3 : Int32) (hf : (if inB (v3 + 1) L then ((f_X5_where S1 (xs (v3 + 1).toNatClampNeg)).bind fun r65 => if inB (v3 + 1) L then ((f_X6_where S2 (xs (v3 + 1).toNatClampNeg)).bind fun r67 => if r65.1 = r67.1 then (f_L_law_b952 L xs (f_L_law_b18 L xs fu) r65.2 r67.2 v3) else some 0) else none) else none) = some 1) : ∀ (H : Heap) (locs : List Loc), va_P G.1 vwCl (ce_X5 G.2.1 a1 S1 ++ ce_X6 G.2.1 a2 S2) H → va_D A (ce_X5 G.2.1 a1 S1 ++ ce_X6 G.2.1 a2 S2) → va_S A s.heap H locs → ∀ (ls : Array Slot), lv_has ls 4 [(0, .ref b), (1, .ref a1.1), (2, .ref a2.1), (3, .int v3)] → W p l e room_1 s m #[Value.ref b] below meth c H locs 600000 7302250 (lw_Z below #[Value.ref b] s) (F0 m 456 ls []) := by
  obtain ⟨hx, hb, hr, hml, hown, htsT, hX, hbl, hlocks, hgv⟩ := id C0
  have hown : s.vm.findClass RL = some m.cls := hown
  have hb : c.code = cL_law := hb
  have hts : ∀ w ∈ wsL_law, w.before #[Value.ref b] s = true := fun w h => htsT w (wsL_law_in w h)
  have hA : ∀ q : Nat, s.heap.size ≤ q → A q := fun q h => by rw [hAe]; exact h
  have hbA : ¬ A b := by rw [hAe]; exact Nat.not_le.mpr hbl
  intro H locs hP hD hS ls hl
  refine lv_aload_n hx hb dL_law_456 rfl (lv_at hl 1 rfl) ?_
  refine lv_aload_n hx hb dL_law_457 rfl (lv_at hl 0 rfl) ?_
  refine lv_iload_n hx hb dL_law_458 rfl (lv_at hl 3 rfl) ?_
  refine lv_iconst (v := 1) hx hb dL_law_459 (by decide) ?_
  refine lv_iadd hx hb dL_law_460 ?_
  obtain ⟨hg64, hf⟩ := ob_guard hf
  refine va_sld hx hb hX hbl hbA hS hg64 dL_law_461 ?_
  obtain ⟨r65, hr65, hf⟩ := ob_bind hf
  have hPc : va_P G.1 vwCl (ce_X5 G.2.1 a1 S1) H := zp_left hP
  have hDc : va_D A (ce_X5 G.2.1 a1 S1) := zd_left hD
  have hFc := zf_of hDc hS hA
  refine zc_wrL (cf := (fun u => ce_X5 G.2.1 a1 u)) (va_runV (As := [.int (xs (v3 + 1).toNatClampNeg)]) (rest := []) ⟨hx, hb, hml, hown, hts⟩ (c_X5_where l G a1 H.size S1 (xs (v3 + 1).toNatClampNeg) _ hr65) (cwV 1 hts gL_law_X5_where rfl rfl rfl (by decide +kernel) ⟨Nat.le_of_ble_eq_true rfl, Nat.le_of_ble_eq_true rfl⟩) ⟨PcM.blind, va_recv hK hPc (ci := 5) (q0 := 0) rfl rfl, PcM.ok hPc hDc hK hE hS hFc⟩ rfl rfl hl.1 rfl (lv_room (Nat.le_of_ble_eq_true rfl)) dL_law_462 ⟨Nat.le_refl _, Nat.le_refl _⟩) hP hD hS hA (fun H locs hP hD hS => ?_)
  refine lv_aload_n hx hb dL_law_465 rfl (lv_at hl 2 rfl) ?_
  refine lv_aload_n hx hb dL_law_466 rfl (lv_at hl 0 rfl) ?_
  refine lv_iload_n hx hb dL_law_467 rfl (lv_at hl 3 rfl) ?_
  refine lv_iconst (v := 1) hx hb dL_law_468 (by decide) ?_
  refine lv_iadd hx hb dL_law_469 ?_
  obtain ⟨hg66, hf⟩ := ob_guard hf
  refine va_sld hx hb hX hbl hbA hS hg66 dL_law_470 ?_
  obtain ⟨r67, hr67, hf⟩ := ob_bind hf
  have hPc : va_P G.1 vwCl (ce_X6 G.2.1 a2 S2) H := zp_right hP
  have hDc : va_D A (ce_X6 G.2.1 a2 S2) := zd_right hD
  have hFc := zf_of hDc hS hA
  refine zc_wrR (cf := (fun u => ce_X6 G.2.1 a2 u)) (va_runV (As := [.int (xs (v3 + 1).toNatClampNeg)]) (rest := [.int r65.1]) ⟨hx, hb, hml, hown, hts⟩ (c_X6_where l G a2 H.size S2 (xs (v3 + 1).toNatClampNeg) _ hr67) (cwV 1 hts gL_law_X6_where rfl rfl rfl (by decide +kernel) ⟨Nat.le_of_ble_eq_true rfl, Nat.le_of_ble_eq_true rfl⟩) ⟨PcM.blind, va_recv hK hPc (ci := 6) (q0 := 0) rfl rfl, PcM.ok hPc hDc hK hE hS hFc⟩ rfl rfl hl.1 rfl (lv_room (Nat.le_of_ble_eq_true rfl)) dL_law_471 ⟨Nat.le_refl _, Nat.le_refl _⟩) hP hD hS hA (fun H locs hP hD hS => ?_)
  refine lv_icmp_eq (tgt := 952) hx hb dL_law_474 (by decide) (fun c68 => ?_) (fun c68 => ?_)
  · replace hf := ob_pos c68 hf
    exact blk952 _ _ _ hf _ _ hP hD hS _ (lv_sub hl [0, 1, 2, 3] rfl)
  · replace hf := ob_neg c68 hf
    refine lv_iconst (v := 0) hx hb dL_law_477 (by decide) ?_
    exact absurd hf (by decide)
set_option maxHeartbeats 4000000 in
set_option maxRecDepth 100000 in
theorem law_case_11 {p : Program} {l : Launch} {e : Env} {s : State} {m : MethodId} {below : List Frame} {meth : Method} {c : Code} {b L : Nat} {xs : Nat → Int32} (C0 : lw_At p s m meth c b L xs) (G : zG) (a1 : AT_X5) (a2 : AT_X6) (hK : va_K G.1 vwCl [(G.2.1, .int)] s) (A : Nat → Prop) (hAe : A = fun q : Nat => s.heap.size ≤ q) (hE : EN G A s s.heap) (fu : Nat) (blk952 : ∀ (S1 : ST_X5) (S2 : ST_X6) (v3 : Int32), f_L_law_b952 L xs (f_L_law_b18 L xs fu) S1 S2 v3 = some 1 → ∀ (H : Heap) (locs : List Loc), va_P G.1 vwCl (ce_X5 G.2.1 a1 S1 ++ ce_X6 G.2.1 a2 S2) H → va_D A (ce_X5 G.2.1 a1 S1 ++ ce_X6 G.2.1 a2 S2) → va_S A s.heap H locs → ∀ (ls : Array Slot), lv_has ls 4 [(0, .ref b), (1, .ref a1.1), (2, .ref a2.1), (3, .int v3)] → W p l e room_1 s m #[Value.ref b] below meth c H locs 600000 7302250 (lw_Z below #[Value.ref b] s) (F0 m 952 ls [])) (S1 : ST_X5) (S2 : ST_X6) (v3 : Int32) (hf : (if inB (v3 + 1) L then (if inB (v3 + 2) L then (if inB (v3 + 3) L then ((f_X5_plan S1 (xs (v3 + 1).toNatClampNeg) (xs (v3 + 2).toNatClampNeg) (xs (v3 + 3).toNatClampNeg)).bind fun r72 => if inB (v3 + 1) L then (if inB (v3 + 2) L then (if inB (v3 + 3) L then ((f_X6_plan S2 (xs (v3 + 1).toNatClampNeg) (xs (v3 + 2).toNatClampNeg) (xs (v3 + 3).toNatClampNeg)).bind fun r76 => if r72.1 = r76.1 then (f_L_law_b952 L xs (f_L_law_b18 L xs fu) r72.2 r76.2 v3) else some 0) else none) else none) else none) else none) else none) else none) = some 1) : ∀ (H : Heap) (locs : List Loc), va_P G.1 vwCl (ce_X5 G.2.1 a1 S1 ++ ce_X6 G.2.1 a2 S2) H → va_D A (ce_X5 G.2.1 a1 S1 ++ ce_X6 G.2.1 a2 S2) → va_S A s.heap H locs → ∀ (ls : Array Slot), lv_has ls 4 [(0, .ref b), (1, .ref a1.1), (2, .ref a2.1), (3, .int v3)] → W p l e room_1 s m #[Value.ref b] below meth c H locs 600000 7302250 (lw_Z below #[Value.ref b] s) (F0 m 479 ls []) := by
  obtain ⟨hx, hb, hr, hml, hown, htsT, hX, hbl, hlocks, hgv⟩ := id C0
  have hown : s.vm.findClass RL = some m.cls := hown
  have hb : c.code = cL_law := hb
  have hts : ∀ w ∈ wsL_law, w.before #[Value.ref b] s = true := fun w h => htsT w (wsL_law_in w h)
  have hA : ∀ q : Nat, s.heap.size ≤ q → A q := fun q h => by rw [hAe]; exact h
  have hbA : ¬ A b := by rw [hAe]; exact Nat.not_le.mpr hbl
  intro H locs hP hD hS ls hl
  refine lv_aload_n hx hb dL_law_479 rfl (lv_at hl 1 rfl) ?_
  refine lv_aload_n hx hb dL_law_480 rfl (lv_at hl 0 rfl) ?_
  refine lv_iload_n hx hb dL_law_481 rfl (lv_at hl 3 rfl) ?_
  refine lv_iconst (v := 1) hx hb dL_law_482 (by decide) ?_
  refine lv_iadd hx hb dL_law_483 ?_
  obtain ⟨hg69, hf⟩ := ob_guard hf
  refine va_sld hx hb hX hbl hbA hS hg69 dL_law_484 ?_
  refine lv_aload_n hx hb dL_law_485 rfl (lv_at hl 0 rfl) ?_
  refine lv_iload_n hx hb dL_law_486 rfl (lv_at hl 3 rfl) ?_
  refine lv_iconst (v := 2) hx hb dL_law_487 (by decide) ?_
  refine lv_iadd hx hb dL_law_488 ?_
  obtain ⟨hg70, hf⟩ := ob_guard hf
  refine va_sld hx hb hX hbl hbA hS hg70 dL_law_489 ?_
  refine lv_aload_n hx hb dL_law_490 rfl (lv_at hl 0 rfl) ?_
  refine lv_iload_n hx hb dL_law_491 rfl (lv_at hl 3 rfl) ?_
  refine lv_iconst (v := 3) hx hb dL_law_492 (by decide) ?_
  refine lv_iadd hx hb dL_law_493 ?_
  obtain ⟨hg71, hf⟩ := ob_guard hf
  refine va_sld hx hb hX hbl hbA hS hg71 dL_law_494 ?_
  obtain ⟨r72, hr72, hf⟩ := ob_bind hf
  have hPc : va_P G.1 vwCl (ce_X5 G.2.1 a1 S1) H := zp_left hP
  have hDc : va_D A (ce_X5 G.2.1 a1 S1) := zd_left hD
  have hFc := zf_of hDc hS hA
  refine zc_wrL (cf := (fun u => ce_X5 G.2.1 a1 u)) (va_runV (As := [.int (xs (v3 + 1).toNatClampNeg), .int (xs (v3 + 2).toNatClampNeg), .int (xs (v3 + 3).toNatClampNeg)]) (rest := []) ⟨hx, hb, hml, hown, hts⟩ (c_X5_plan l G a1 H.size S1 (xs (v3 + 1).toNatClampNeg) (xs (v3 + 2).toNatClampNeg) (xs (v3 + 3).toNatClampNeg) _ hr72) (cwV 3 hts gL_law_X5_plan rfl rfl rfl (by decide +kernel) ⟨Nat.le_of_ble_eq_true rfl, Nat.le_of_ble_eq_true rfl⟩) ⟨PcM.blind, va_recv hK hPc (ci := 5) (q0 := 0) rfl rfl, PcM.ok hPc hDc hK hE hS hFc⟩ rfl rfl hl.1 rfl (lv_room (Nat.le_of_ble_eq_true rfl)) dL_law_495 ⟨Nat.le_refl _, Nat.le_refl _⟩) hP hD hS hA (fun H locs hP hD hS => ?_)
  refine lv_aload_n hx hb dL_law_498 rfl (lv_at hl 2 rfl) ?_
  refine lv_aload_n hx hb dL_law_499 rfl (lv_at hl 0 rfl) ?_
  refine lv_iload_n hx hb dL_law_500 rfl (lv_at hl 3 rfl) ?_
  refine lv_iconst (v := 1) hx hb dL_law_501 (by decide) ?_
  refine lv_iadd hx hb dL_law_502 ?_
  obtain ⟨hg73, hf⟩ := ob_guard hf
  refine va_sld hx hb hX hbl hbA hS hg73 dL_law_503 ?_
  refine lv_aload_n hx hb dL_law_504 rfl (lv_at hl 0 rfl) ?_
  refine lv_iload_n hx hb dL_law_505 rfl (lv_at hl 3 rfl) ?_
  refine lv_iconst (v := 2) hx hb dL_law_506 (by decide) ?_
  refine lv_iadd hx hb dL_law_507 ?_
  obtain ⟨hg74, hf⟩ := ob_guard hf
  refine va_sld hx hb hX hbl hbA hS hg74 dL_law_508 ?_
  refine lv_aload_n hx hb dL_law_509 rfl (lv_at hl 0 rfl) ?_
  refine lv_iload_n hx hb dL_law_510 rfl (lv_at hl 3 rfl) ?_
  refine lv_iconst (v := 3) hx hb dL_law_511 (by decide) ?_
  refine lv_iadd hx hb dL_law_512 ?_
  obtain ⟨hg75, hf⟩ := ob_guard hf
  refine va_sld hx hb hX hbl hbA hS hg75 dL_law_513 ?_
  obtain ⟨r76, hr76, hf⟩ := ob_bind hf
  have hPc : va_P G.1 vwCl (ce_X6 G.2.1 a2 S2) H := zp_right hP
  have hDc : va_D A (ce_X6 G.2.1 a2 S2) := zd_right hD
  have hFc := zf_of hDc hS hA
  refine zc_wrR (cf := (fun u => ce_X6 G.2.1 a2 u)) (va_runV (As := [.int (xs (v3 + 1).toNatClampNeg), .int (xs (v3 + 2).toNatClampNeg), .int (xs (v3 + 3).toNatClampNeg)]) (rest := [.int r72.1]) ⟨hx, hb, hml, hown, hts⟩ (c_X6_plan l G a2 H.size S2 (xs (v3 + 1).toNatClampNeg) (xs (v3 + 2).toNatClampNeg) (xs (v3 + 3).toNatClampNeg) _ hr76) (cwV 3 hts gL_law_X6_plan rfl rfl rfl (by decide +kernel) ⟨Nat.le_of_ble_eq_true rfl, Nat.le_of_ble_eq_true rfl⟩) ⟨PcM.blind, va_recv hK hPc (ci := 6) (q0 := 0) rfl rfl, PcM.ok hPc hDc hK hE hS hFc⟩ rfl rfl hl.1 rfl (lv_room (Nat.le_of_ble_eq_true rfl)) dL_law_514 ⟨Nat.le_refl _, Nat.le_refl _⟩) hP hD hS hA (fun H locs hP hD hS => ?_)
  refine lv_icmp_eq (tgt := 952) hx hb dL_law_517 (by decide) (fun c77 => ?_) (fun c77 => ?_)
  · replace hf := ob_pos c77 hf
    exact blk952 _ _ _ hf _ _ hP hD hS _ (lv_sub hl [0, 1, 2, 3] rfl)
  · replace hf := ob_neg c77 hf
    refine lv_iconst (v := 0) hx hb dL_law_520 (by decide) ?_
    exact absurd hf (by decide)
set_option maxHeartbeats 4000000 in
set_option maxRecDepth 100000 in
theorem law_case_12 {p : Program} {l : Launch} {e : Env} {s : State} {m : MethodId} {below : List Frame} {meth : Method} {c : Code} {b L : Nat} {xs : Nat → Int32} (C0 : lw_At p s m meth c b L xs) (G : zG) (a1 : AT_X5) (a2 : AT_X6) (hK : va_K G.1 vwCl [(G.2.1, .int)] s) (A : Nat → Prop) (hAe : A = fun q : Nat => s.heap.size ≤ q) (hE : EN G A s s.heap) (fu : Nat) (blk952 : ∀ (S1 : ST_X5) (S2 : ST_X6) (v3 : Int32), f_L_law_b952 L xs (f_L_law_b18 L xs fu) S1 S2 v3 = some 1 → ∀ (H : Heap) (locs : List Loc), va_P G.1 vwCl (ce_X5 G.2.1 a1 S1 ++ ce_X6 G.2.1 a2 S2) H → va_D A (ce_X5 G.2.1 a1 S1 ++ ce_X6 G.2.1 a2 S2) → va_S A s.heap H locs → ∀ (ls : Array Slot), lv_has ls 4 [(0, .ref b), (1, .ref a1.1), (2, .ref a2.1), (3, .int v3)] → W p l e room_1 s m #[Value.ref b] below meth c H locs 600000 7302250 (lw_Z below #[Value.ref b] s) (F0 m 952 ls [])) (S1 : ST_X5) (S2 : ST_X6) (v3 : Int32) (hf : (if inB (v3 + 1) L then (if inB (v3 + 2) L then ((f_X5_await S1 (xs (v3 + 1).toNatClampNeg) (xs (v3 + 2).toNatClampNeg)).bind fun r80 => if inB (v3 + 1) L then (if inB (v3 + 2) L then ((f_X6_await S2 (xs (v3 + 1).toNatClampNeg) (xs (v3 + 2).toNatClampNeg)).bind fun r83 => if r80.1 = r83.1 then (f_L_law_b952 L xs (f_L_law_b18 L xs fu) r80.2 r83.2 v3) else some 0) else none) else none) else none) else none) = some 1) : ∀ (H : Heap) (locs : List Loc), va_P G.1 vwCl (ce_X5 G.2.1 a1 S1 ++ ce_X6 G.2.1 a2 S2) H → va_D A (ce_X5 G.2.1 a1 S1 ++ ce_X6 G.2.1 a2 S2) → va_S A s.heap H locs → ∀ (ls : Array Slot), lv_has ls 4 [(0, .ref b), (1, .ref a1.1), (2, .ref a2.1), (3, .int v3)] → W p l e room_1 s m #[Value.ref b] below meth c H locs 600000 7302250 (lw_Z below #[Value.ref b] s) (F0 m 522 ls []) := by
  obtain ⟨hx, hb, hr, hml, hown, htsT, hX, hbl, hlocks, hgv⟩ := id C0
  have hown : s.vm.findClass RL = some m.cls := hown
  have hb : c.code = cL_law := hb
  have hts : ∀ w ∈ wsL_law, w.before #[Value.ref b] s = true := fun w h => htsT w (wsL_law_in w h)
  have hA : ∀ q : Nat, s.heap.size ≤ q → A q := fun q h => by rw [hAe]; exact h
  have hbA : ¬ A b := by rw [hAe]; exact Nat.not_le.mpr hbl
  intro H locs hP hD hS ls hl
  refine lv_aload_n hx hb dL_law_522 rfl (lv_at hl 1 rfl) ?_
  refine lv_aload_n hx hb dL_law_523 rfl (lv_at hl 0 rfl) ?_
  refine lv_iload_n hx hb dL_law_524 rfl (lv_at hl 3 rfl) ?_
  refine lv_iconst (v := 1) hx hb dL_law_525 (by decide) ?_
  refine lv_iadd hx hb dL_law_526 ?_
  obtain ⟨hg78, hf⟩ := ob_guard hf
  refine va_sld hx hb hX hbl hbA hS hg78 dL_law_527 ?_
  refine lv_aload_n hx hb dL_law_528 rfl (lv_at hl 0 rfl) ?_
  refine lv_iload_n hx hb dL_law_529 rfl (lv_at hl 3 rfl) ?_
  refine lv_iconst (v := 2) hx hb dL_law_530 (by decide) ?_
  refine lv_iadd hx hb dL_law_531 ?_
  obtain ⟨hg79, hf⟩ := ob_guard hf
  refine va_sld hx hb hX hbl hbA hS hg79 dL_law_532 ?_
  obtain ⟨r80, hr80, hf⟩ := ob_bind hf
  have hPc : va_P G.1 vwCl (ce_X5 G.2.1 a1 S1) H := zp_left hP
  have hDc : va_D A (ce_X5 G.2.1 a1 S1) := zd_left hD
  have hFc := zf_of hDc hS hA
  refine zc_wrL (cf := (fun u => ce_X5 G.2.1 a1 u)) (va_runV (As := [.int (xs (v3 + 1).toNatClampNeg), .int (xs (v3 + 2).toNatClampNeg)]) (rest := []) ⟨hx, hb, hml, hown, hts⟩ (c_X5_await l G a1 H.size S1 (xs (v3 + 1).toNatClampNeg) (xs (v3 + 2).toNatClampNeg) _ hr80) (cwV 2 hts gL_law_X5_await rfl rfl rfl (by decide +kernel) ⟨Nat.le_of_ble_eq_true rfl, Nat.le_of_ble_eq_true rfl⟩) ⟨PcM.blind, va_recv hK hPc (ci := 5) (q0 := 0) rfl rfl, PcM.ok hPc hDc hK hE hS hFc⟩ rfl rfl hl.1 rfl (lv_room (Nat.le_of_ble_eq_true rfl)) dL_law_533 ⟨Nat.le_refl _, Nat.le_refl _⟩) hP hD hS hA (fun H locs hP hD hS => ?_)
  refine lv_aload_n hx hb dL_law_536 rfl (lv_at hl 2 rfl) ?_
  refine lv_aload_n hx hb dL_law_537 rfl (lv_at hl 0 rfl) ?_
  refine lv_iload_n hx hb dL_law_538 rfl (lv_at hl 3 rfl) ?_
  refine lv_iconst (v := 1) hx hb dL_law_539 (by decide) ?_
  refine lv_iadd hx hb dL_law_540 ?_
  obtain ⟨hg81, hf⟩ := ob_guard hf
  refine va_sld hx hb hX hbl hbA hS hg81 dL_law_541 ?_
  refine lv_aload_n hx hb dL_law_542 rfl (lv_at hl 0 rfl) ?_
  refine lv_iload_n hx hb dL_law_543 rfl (lv_at hl 3 rfl) ?_
  refine lv_iconst (v := 2) hx hb dL_law_544 (by decide) ?_
  refine lv_iadd hx hb dL_law_545 ?_
  obtain ⟨hg82, hf⟩ := ob_guard hf
  refine va_sld hx hb hX hbl hbA hS hg82 dL_law_546 ?_
  obtain ⟨r83, hr83, hf⟩ := ob_bind hf
  have hPc : va_P G.1 vwCl (ce_X6 G.2.1 a2 S2) H := zp_right hP
  have hDc : va_D A (ce_X6 G.2.1 a2 S2) := zd_right hD
  have hFc := zf_of hDc hS hA
  refine zc_wrR (cf := (fun u => ce_X6 G.2.1 a2 u)) (va_runV (As := [.int (xs (v3 + 1).toNatClampNeg), .int (xs (v3 + 2).toNatClampNeg)]) (rest := [.int r80.1]) ⟨hx, hb, hml, hown, hts⟩ (c_X6_await l G a2 H.size S2 (xs (v3 + 1).toNatClampNeg) (xs (v3 + 2).toNatClampNeg) _ hr83) (cwV 2 hts gL_law_X6_await rfl rfl rfl (by decide +kernel) ⟨Nat.le_of_ble_eq_true rfl, Nat.le_of_ble_eq_true rfl⟩) ⟨PcM.blind, va_recv hK hPc (ci := 6) (q0 := 0) rfl rfl, PcM.ok hPc hDc hK hE hS hFc⟩ rfl rfl hl.1 rfl (lv_room (Nat.le_of_ble_eq_true rfl)) dL_law_547 ⟨Nat.le_refl _, Nat.le_refl _⟩) hP hD hS hA (fun H locs hP hD hS => ?_)
  refine lv_icmp_eq (tgt := 952) hx hb dL_law_550 (by decide) (fun c84 => ?_) (fun c84 => ?_)
  · replace hf := ob_pos c84 hf
    exact blk952 _ _ _ hf _ _ hP hD hS _ (lv_sub hl [0, 1, 2, 3] rfl)
  · replace hf := ob_neg c84 hf
    refine lv_iconst (v := 0) hx hb dL_law_553 (by decide) ?_
    exact absurd hf (by decide)
set_option maxHeartbeats 4000000 in
set_option maxRecDepth 100000 in
theorem law_case_13 {p : Program} {l : Launch} {e : Env} {s : State} {m : MethodId} {below : List Frame} {meth : Method} {c : Code} {b L : Nat} {xs : Nat → Int32} (C0 : lw_At p s m meth c b L xs) (G : zG) (a1 : AT_X5) (a2 : AT_X6) (hK : va_K G.1 vwCl [(G.2.1, .int)] s) (A : Nat → Prop) (hAe : A = fun q : Nat => s.heap.size ≤ q) (hE : EN G A s s.heap) (fu : Nat) (blk952 : ∀ (S1 : ST_X5) (S2 : ST_X6) (v3 : Int32), f_L_law_b952 L xs (f_L_law_b18 L xs fu) S1 S2 v3 = some 1 → ∀ (H : Heap) (locs : List Loc), va_P G.1 vwCl (ce_X5 G.2.1 a1 S1 ++ ce_X6 G.2.1 a2 S2) H → va_D A (ce_X5 G.2.1 a1 S1 ++ ce_X6 G.2.1 a2 S2) → va_S A s.heap H locs → ∀ (ls : Array Slot), lv_has ls 4 [(0, .ref b), (1, .ref a1.1), (2, .ref a2.1), (3, .int v3)] → W p l e room_1 s m #[Value.ref b] below meth c H locs 600000 7302250 (lw_Z below #[Value.ref b] s) (F0 m 952 ls [])) (S1 : ST_X5) (S2 : ST_X6) (v3 : Int32) (hf : (if inB (v3 + 1) L then ((f_X5_chase S1 (xs (v3 + 1).toNatClampNeg)).bind fun r86 => if inB (v3 + 1) L then ((f_X6_chase S2 (xs (v3 + 1).toNatClampNeg)).bind fun r88 => if r86.1 = r88.1 then (f_L_law_b952 L xs (f_L_law_b18 L xs fu) r86.2 r88.2 v3) else some 0) else none) else none) = some 1) : ∀ (H : Heap) (locs : List Loc), va_P G.1 vwCl (ce_X5 G.2.1 a1 S1 ++ ce_X6 G.2.1 a2 S2) H → va_D A (ce_X5 G.2.1 a1 S1 ++ ce_X6 G.2.1 a2 S2) → va_S A s.heap H locs → ∀ (ls : Array Slot), lv_has ls 4 [(0, .ref b), (1, .ref a1.1), (2, .ref a2.1), (3, .int v3)] → W p l e room_1 s m #[Value.ref b] below meth c H locs 600000 7302250 (lw_Z below #[Value.ref b] s) (F0 m 555 ls []) := by
  obtain ⟨hx, hb, hr, hml, hown, htsT, hX, hbl, hlocks, hgv⟩ := id C0
  have hown : s.vm.findClass RL = some m.cls := hown
  have hb : c.code = cL_law := hb
  have hts : ∀ w ∈ wsL_law, w.before #[Value.ref b] s = true := fun w h => htsT w (wsL_law_in w h)
  have hA : ∀ q : Nat, s.heap.size ≤ q → A q := fun q h => by rw [hAe]; exact h
  have hbA : ¬ A b := by rw [hAe]; exact Nat.not_le.mpr hbl
  intro H locs hP hD hS ls hl
  refine lv_aload_n hx hb dL_law_555 rfl (lv_at hl 1 rfl) ?_
  refine lv_aload_n hx hb dL_law_556 rfl (lv_at hl 0 rfl) ?_
  refine lv_iload_n hx hb dL_law_557 rfl (lv_at hl 3 rfl) ?_
  refine lv_iconst (v := 1) hx hb dL_law_558 (by decide) ?_
  refine lv_iadd hx hb dL_law_559 ?_
  obtain ⟨hg85, hf⟩ := ob_guard hf
  refine va_sld hx hb hX hbl hbA hS hg85 dL_law_560 ?_
  obtain ⟨r86, hr86, hf⟩ := ob_bind hf
  have hPc : va_P G.1 vwCl (ce_X5 G.2.1 a1 S1) H := zp_left hP
  have hDc : va_D A (ce_X5 G.2.1 a1 S1) := zd_left hD
  have hFc := zf_of hDc hS hA
  refine zc_wrL (cf := (fun u => ce_X5 G.2.1 a1 u)) (va_runV (As := [.int (xs (v3 + 1).toNatClampNeg)]) (rest := []) ⟨hx, hb, hml, hown, hts⟩ (c_X5_chase l G a1 H.size S1 (xs (v3 + 1).toNatClampNeg) _ hr86) (cwV 1 hts gL_law_X5_chase rfl rfl rfl (by decide +kernel) ⟨Nat.le_of_ble_eq_true rfl, Nat.le_of_ble_eq_true rfl⟩) ⟨PcM.blind, va_recv hK hPc (ci := 5) (q0 := 0) rfl rfl, PcM.ok hPc hDc hK hE hS hFc⟩ rfl rfl hl.1 rfl (lv_room (Nat.le_of_ble_eq_true rfl)) dL_law_561 ⟨Nat.le_refl _, Nat.le_refl _⟩) hP hD hS hA (fun H locs hP hD hS => ?_)
  refine lv_aload_n hx hb dL_law_564 rfl (lv_at hl 2 rfl) ?_
  refine lv_aload_n hx hb dL_law_565 rfl (lv_at hl 0 rfl) ?_
  refine lv_iload_n hx hb dL_law_566 rfl (lv_at hl 3 rfl) ?_
  refine lv_iconst (v := 1) hx hb dL_law_567 (by decide) ?_
  refine lv_iadd hx hb dL_law_568 ?_
  obtain ⟨hg87, hf⟩ := ob_guard hf
  refine va_sld hx hb hX hbl hbA hS hg87 dL_law_569 ?_
  obtain ⟨r88, hr88, hf⟩ := ob_bind hf
  have hPc : va_P G.1 vwCl (ce_X6 G.2.1 a2 S2) H := zp_right hP
  have hDc : va_D A (ce_X6 G.2.1 a2 S2) := zd_right hD
  have hFc := zf_of hDc hS hA
  refine zc_wrR (cf := (fun u => ce_X6 G.2.1 a2 u)) (va_runV (As := [.int (xs (v3 + 1).toNatClampNeg)]) (rest := [.int r86.1]) ⟨hx, hb, hml, hown, hts⟩ (c_X6_chase l G a2 H.size S2 (xs (v3 + 1).toNatClampNeg) _ hr88) (cwV 1 hts gL_law_X6_chase rfl rfl rfl (by decide +kernel) ⟨Nat.le_of_ble_eq_true rfl, Nat.le_of_ble_eq_true rfl⟩) ⟨PcM.blind, va_recv hK hPc (ci := 6) (q0 := 0) rfl rfl, PcM.ok hPc hDc hK hE hS hFc⟩ rfl rfl hl.1 rfl (lv_room (Nat.le_of_ble_eq_true rfl)) dL_law_570 ⟨Nat.le_refl _, Nat.le_refl _⟩) hP hD hS hA (fun H locs hP hD hS => ?_)
  refine lv_icmp_eq (tgt := 952) hx hb dL_law_573 (by decide) (fun c89 => ?_) (fun c89 => ?_)
  · replace hf := ob_pos c89 hf
    exact blk952 _ _ _ hf _ _ hP hD hS _ (lv_sub hl [0, 1, 2, 3] rfl)
  · replace hf := ob_neg c89 hf
    refine lv_iconst (v := 0) hx hb dL_law_576 (by decide) ?_
    exact absurd hf (by decide)
set_option maxHeartbeats 4000000 in
set_option maxRecDepth 100000 in
theorem law_case_14 {p : Program} {l : Launch} {e : Env} {s : State} {m : MethodId} {below : List Frame} {meth : Method} {c : Code} {b L : Nat} {xs : Nat → Int32} (C0 : lw_At p s m meth c b L xs) (G : zG) (a1 : AT_X5) (a2 : AT_X6) (hK : va_K G.1 vwCl [(G.2.1, .int)] s) (A : Nat → Prop) (hAe : A = fun q : Nat => s.heap.size ≤ q) (hE : EN G A s s.heap) (fu : Nat) (blk952 : ∀ (S1 : ST_X5) (S2 : ST_X6) (v3 : Int32), f_L_law_b952 L xs (f_L_law_b18 L xs fu) S1 S2 v3 = some 1 → ∀ (H : Heap) (locs : List Loc), va_P G.1 vwCl (ce_X5 G.2.1 a1 S1 ++ ce_X6 G.2.1 a2 S2) H → va_D A (ce_X5 G.2.1 a1 S1 ++ ce_X6 G.2.1 a2 S2) → va_S A s.heap H locs → ∀ (ls : Array Slot), lv_has ls 4 [(0, .ref b), (1, .ref a1.1), (2, .ref a2.1), (3, .int v3)] → W p l e room_1 s m #[Value.ref b] below meth c H locs 600000 7302250 (lw_Z below #[Value.ref b] s) (F0 m 952 ls [])) (S1 : ST_X5) (S2 : ST_X6) (v3 : Int32) (hf : ((f_X5_ever S1).bind fun r90 => (f_X6_ever S2).bind fun r91 => if r90 = r91 then (f_L_law_b952 L xs (f_L_law_b18 L xs fu) S1 S2 v3) else some 0) = some 1) : ∀ (H : Heap) (locs : List Loc), va_P G.1 vwCl (ce_X5 G.2.1 a1 S1 ++ ce_X6 G.2.1 a2 S2) H → va_D A (ce_X5 G.2.1 a1 S1 ++ ce_X6 G.2.1 a2 S2) → va_S A s.heap H locs → ∀ (ls : Array Slot), lv_has ls 4 [(0, .ref b), (1, .ref a1.1), (2, .ref a2.1), (3, .int v3)] → W p l e room_1 s m #[Value.ref b] below meth c H locs 600000 7302250 (lw_Z below #[Value.ref b] s) (F0 m 578 ls []) := by
  obtain ⟨hx, hb, hr, hml, hown, htsT, hX, hbl, hlocks, hgv⟩ := id C0
  have hown : s.vm.findClass RL = some m.cls := hown
  have hb : c.code = cL_law := hb
  have hts : ∀ w ∈ wsL_law, w.before #[Value.ref b] s = true := fun w h => htsT w (wsL_law_in w h)
  have hA : ∀ q : Nat, s.heap.size ≤ q → A q := fun q h => by rw [hAe]; exact h
  have hbA : ¬ A b := by rw [hAe]; exact Nat.not_le.mpr hbl
  intro H locs hP hD hS ls hl
  refine lv_aload_n hx hb dL_law_578 rfl (lv_at hl 1 rfl) ?_
  obtain ⟨r90, hr90, hf⟩ := ob_bind hf
  have hPc : va_P G.1 vwCl (ce_X5 G.2.1 a1 S1) H := zp_left hP
  have hDc : va_D A (ce_X5 G.2.1 a1 S1) := zd_left hD
  have hFc := zf_of hDc hS hA
  refine zc_roL (va_runV (As := []) (rest := []) ⟨hx, hb, hml, hown, hts⟩ (c_X5_ever l G a1 H.size S1 _ hr90) (cwV 0 hts gL_law_X5_ever rfl rfl rfl (by decide +kernel) ⟨Nat.le_of_ble_eq_true rfl, Nat.le_of_ble_eq_true rfl⟩) ⟨PcM.blind, va_recv hK hPc (ci := 5) (q0 := 0) rfl rfl, PcM.ok hPc hDc hK hE hS hFc⟩ rfl rfl hl.1 rfl (lv_room (Nat.le_of_ble_eq_true rfl)) dL_law_579 ⟨Nat.le_refl _, Nat.le_refl _⟩) hP hD hS hA (fun H locs hP hD hS => ?_)
  refine lv_aload_n hx hb dL_law_582 rfl (lv_at hl 2 rfl) ?_
  obtain ⟨r91, hr91, hf⟩ := ob_bind hf
  have hPc : va_P G.1 vwCl (ce_X6 G.2.1 a2 S2) H := zp_right hP
  have hDc : va_D A (ce_X6 G.2.1 a2 S2) := zd_right hD
  have hFc := zf_of hDc hS hA
  refine zc_roR (va_runV (As := []) (rest := [.int r90]) ⟨hx, hb, hml, hown, hts⟩ (c_X6_ever l G a2 H.size S2 _ hr91) (cwV 0 hts gL_law_X6_ever rfl rfl rfl (by decide +kernel) ⟨Nat.le_of_ble_eq_true rfl, Nat.le_of_ble_eq_true rfl⟩) ⟨PcM.blind, va_recv hK hPc (ci := 6) (q0 := 0) rfl rfl, PcM.ok hPc hDc hK hE hS hFc⟩ rfl rfl hl.1 rfl (lv_room (Nat.le_of_ble_eq_true rfl)) dL_law_583 ⟨Nat.le_refl _, Nat.le_refl _⟩) hP hD hS hA (fun H locs hP hD hS => ?_)
  refine lv_icmp_eq (tgt := 952) hx hb dL_law_586 (by decide) (fun c92 => ?_) (fun c92 => ?_)
  · replace hf := ob_pos c92 hf
    exact blk952 _ _ _ hf _ _ hP hD hS _ (lv_sub hl [0, 1, 2, 3] rfl)
  · replace hf := ob_neg c92 hf
    refine lv_iconst (v := 0) hx hb dL_law_589 (by decide) ?_
    exact absurd hf (by decide)
set_option maxHeartbeats 4000000 in
set_option maxRecDepth 100000 in
theorem law_case_15 {p : Program} {l : Launch} {e : Env} {s : State} {m : MethodId} {below : List Frame} {meth : Method} {c : Code} {b L : Nat} {xs : Nat → Int32} (C0 : lw_At p s m meth c b L xs) (G : zG) (a1 : AT_X5) (a2 : AT_X6) (hK : va_K G.1 vwCl [(G.2.1, .int)] s) (A : Nat → Prop) (hAe : A = fun q : Nat => s.heap.size ≤ q) (hE : EN G A s s.heap) (fu : Nat) (blk952 : ∀ (S1 : ST_X5) (S2 : ST_X6) (v3 : Int32), f_L_law_b952 L xs (f_L_law_b18 L xs fu) S1 S2 v3 = some 1 → ∀ (H : Heap) (locs : List Loc), va_P G.1 vwCl (ce_X5 G.2.1 a1 S1 ++ ce_X6 G.2.1 a2 S2) H → va_D A (ce_X5 G.2.1 a1 S1 ++ ce_X6 G.2.1 a2 S2) → va_S A s.heap H locs → ∀ (ls : Array Slot), lv_has ls 4 [(0, .ref b), (1, .ref a1.1), (2, .ref a2.1), (3, .int v3)] → W p l e room_1 s m #[Value.ref b] below meth c H locs 600000 7302250 (lw_Z below #[Value.ref b] s) (F0 m 952 ls [])) (S1 : ST_X5) (S2 : ST_X6) (v3 : Int32) (hf : ((f_X5_all S1).bind fun r93 => (f_X6_all S2).bind fun r94 => if r93.1 = r94.1 then (f_L_law_b952 L xs (f_L_law_b18 L xs fu) r93.2 r94.2 v3) else some 0) = some 1) : ∀ (H : Heap) (locs : List Loc), va_P G.1 vwCl (ce_X5 G.2.1 a1 S1 ++ ce_X6 G.2.1 a2 S2) H → va_D A (ce_X5 G.2.1 a1 S1 ++ ce_X6 G.2.1 a2 S2) → va_S A s.heap H locs → ∀ (ls : Array Slot), lv_has ls 4 [(0, .ref b), (1, .ref a1.1), (2, .ref a2.1), (3, .int v3)] → W p l e room_1 s m #[Value.ref b] below meth c H locs 600000 7302250 (lw_Z below #[Value.ref b] s) (F0 m 591 ls []) := by
  obtain ⟨hx, hb, hr, hml, hown, htsT, hX, hbl, hlocks, hgv⟩ := id C0
  have hown : s.vm.findClass RL = some m.cls := hown
  have hb : c.code = cL_law := hb
  have hts : ∀ w ∈ wsL_law, w.before #[Value.ref b] s = true := fun w h => htsT w (wsL_law_in w h)
  have hA : ∀ q : Nat, s.heap.size ≤ q → A q := fun q h => by rw [hAe]; exact h
  have hbA : ¬ A b := by rw [hAe]; exact Nat.not_le.mpr hbl
  intro H locs hP hD hS ls hl
  refine lv_aload_n hx hb dL_law_591 rfl (lv_at hl 1 rfl) ?_
  obtain ⟨r93, hr93, hf⟩ := ob_bind hf
  have hPc : va_P G.1 vwCl (ce_X5 G.2.1 a1 S1) H := zp_left hP
  have hDc : va_D A (ce_X5 G.2.1 a1 S1) := zd_left hD
  have hFc := zf_of hDc hS hA
  refine zc_wrL (cf := (fun u => ce_X5 G.2.1 a1 u)) (va_runV (As := []) (rest := []) ⟨hx, hb, hml, hown, hts⟩ (c_X5_all l G a1 H.size S1 _ hr93) (cwV 0 hts gL_law_X5_all rfl rfl rfl (by decide +kernel) ⟨Nat.le_of_ble_eq_true rfl, Nat.le_of_ble_eq_true rfl⟩) ⟨PcM.blind, va_recv hK hPc (ci := 5) (q0 := 0) rfl rfl, PcM.ok hPc hDc hK hE hS hFc⟩ rfl rfl hl.1 rfl (lv_room (Nat.le_of_ble_eq_true rfl)) dL_law_592 ⟨Nat.le_refl _, Nat.le_refl _⟩) hP hD hS hA (fun H locs hP hD hS => ?_)
  refine lv_aload_n hx hb dL_law_595 rfl (lv_at hl 2 rfl) ?_
  obtain ⟨r94, hr94, hf⟩ := ob_bind hf
  have hPc : va_P G.1 vwCl (ce_X6 G.2.1 a2 S2) H := zp_right hP
  have hDc : va_D A (ce_X6 G.2.1 a2 S2) := zd_right hD
  have hFc := zf_of hDc hS hA
  refine zc_wrR (cf := (fun u => ce_X6 G.2.1 a2 u)) (va_runV (As := []) (rest := [.int r93.1]) ⟨hx, hb, hml, hown, hts⟩ (c_X6_all l G a2 H.size S2 _ hr94) (cwV 0 hts gL_law_X6_all rfl rfl rfl (by decide +kernel) ⟨Nat.le_of_ble_eq_true rfl, Nat.le_of_ble_eq_true rfl⟩) ⟨PcM.blind, va_recv hK hPc (ci := 6) (q0 := 0) rfl rfl, PcM.ok hPc hDc hK hE hS hFc⟩ rfl rfl hl.1 rfl (lv_room (Nat.le_of_ble_eq_true rfl)) dL_law_596 ⟨Nat.le_refl _, Nat.le_refl _⟩) hP hD hS hA (fun H locs hP hD hS => ?_)
  refine lv_icmp_eq (tgt := 952) hx hb dL_law_599 (by decide) (fun c95 => ?_) (fun c95 => ?_)
  · replace hf := ob_pos c95 hf
    exact blk952 _ _ _ hf _ _ hP hD hS _ (lv_sub hl [0, 1, 2, 3] rfl)
  · replace hf := ob_neg c95 hf
    refine lv_iconst (v := 0) hx hb dL_law_602 (by decide) ?_
    exact absurd hf (by decide)
set_option maxHeartbeats 4000000 in
set_option maxRecDepth 100000 in
theorem law_case_16 {p : Program} {l : Launch} {e : Env} {s : State} {m : MethodId} {below : List Frame} {meth : Method} {c : Code} {b L : Nat} {xs : Nat → Int32} (C0 : lw_At p s m meth c b L xs) (G : zG) (a1 : AT_X5) (a2 : AT_X6) (hK : va_K G.1 vwCl [(G.2.1, .int)] s) (A : Nat → Prop) (hAe : A = fun q : Nat => s.heap.size ≤ q) (hE : EN G A s s.heap) (fu : Nat) (blk952 : ∀ (S1 : ST_X5) (S2 : ST_X6) (v3 : Int32), f_L_law_b952 L xs (f_L_law_b18 L xs fu) S1 S2 v3 = some 1 → ∀ (H : Heap) (locs : List Loc), va_P G.1 vwCl (ce_X5 G.2.1 a1 S1 ++ ce_X6 G.2.1 a2 S2) H → va_D A (ce_X5 G.2.1 a1 S1 ++ ce_X6 G.2.1 a2 S2) → va_S A s.heap H locs → ∀ (ls : Array Slot), lv_has ls 4 [(0, .ref b), (1, .ref a1.1), (2, .ref a2.1), (3, .int v3)] → W p l e room_1 s m #[Value.ref b] below meth c H locs 600000 7302250 (lw_Z below #[Value.ref b] s) (F0 m 952 ls [])) (S1 : ST_X5) (S2 : ST_X6) (v3 : Int32) (hf : (if inB (v3 + 1) L then (if inB (v3 + 2) L then (if inB (v3 + 3) L then (if inB (v3 + 4) L then ((f_X5_reading S1 (xs (v3 + 1).toNatClampNeg) (xs (v3 + 2).toNatClampNeg) (xs (v3 + 3).toNatClampNeg) (xs (v3 + 4).toNatClampNeg)).bind fun r100 => if inB (v3 + 1) L then (if inB (v3 + 2) L then (if inB (v3 + 3) L then (if inB (v3 + 4) L then ((f_X6_reading S2 (xs (v3 + 1).toNatClampNeg) (xs (v3 + 2).toNatClampNeg) (xs (v3 + 3).toNatClampNeg) (xs (v3 + 4).toNatClampNeg)).bind fun r105 => if r100.1 = r105.1 then (f_L_law_b952 L xs (f_L_law_b18 L xs fu) r100.2 r105.2 v3) else some 0) else none) else none) else none) else none) else none) else none) else none) else none) = some 1) : ∀ (H : Heap) (locs : List Loc), va_P G.1 vwCl (ce_X5 G.2.1 a1 S1 ++ ce_X6 G.2.1 a2 S2) H → va_D A (ce_X5 G.2.1 a1 S1 ++ ce_X6 G.2.1 a2 S2) → va_S A s.heap H locs → ∀ (ls : Array Slot), lv_has ls 4 [(0, .ref b), (1, .ref a1.1), (2, .ref a2.1), (3, .int v3)] → W p l e room_1 s m #[Value.ref b] below meth c H locs 600000 7302250 (lw_Z below #[Value.ref b] s) (F0 m 604 ls []) := by
  obtain ⟨hx, hb, hr, hml, hown, htsT, hX, hbl, hlocks, hgv⟩ := id C0
  have hown : s.vm.findClass RL = some m.cls := hown
  have hb : c.code = cL_law := hb
  have hts : ∀ w ∈ wsL_law, w.before #[Value.ref b] s = true := fun w h => htsT w (wsL_law_in w h)
  have hA : ∀ q : Nat, s.heap.size ≤ q → A q := fun q h => by rw [hAe]; exact h
  have hbA : ¬ A b := by rw [hAe]; exact Nat.not_le.mpr hbl
  intro H locs hP hD hS ls hl
  refine lv_aload_n hx hb dL_law_604 rfl (lv_at hl 1 rfl) ?_
  refine lv_aload_n hx hb dL_law_605 rfl (lv_at hl 0 rfl) ?_
  refine lv_iload_n hx hb dL_law_606 rfl (lv_at hl 3 rfl) ?_
  refine lv_iconst (v := 1) hx hb dL_law_607 (by decide) ?_
  refine lv_iadd hx hb dL_law_608 ?_
  obtain ⟨hg96, hf⟩ := ob_guard hf
  refine va_sld hx hb hX hbl hbA hS hg96 dL_law_609 ?_
  refine lv_aload_n hx hb dL_law_610 rfl (lv_at hl 0 rfl) ?_
  refine lv_iload_n hx hb dL_law_611 rfl (lv_at hl 3 rfl) ?_
  refine lv_iconst (v := 2) hx hb dL_law_612 (by decide) ?_
  refine lv_iadd hx hb dL_law_613 ?_
  obtain ⟨hg97, hf⟩ := ob_guard hf
  refine va_sld hx hb hX hbl hbA hS hg97 dL_law_614 ?_
  refine lv_aload_n hx hb dL_law_615 rfl (lv_at hl 0 rfl) ?_
  refine lv_iload_n hx hb dL_law_616 rfl (lv_at hl 3 rfl) ?_
  refine lv_iconst (v := 3) hx hb dL_law_617 (by decide) ?_
  refine lv_iadd hx hb dL_law_618 ?_
  obtain ⟨hg98, hf⟩ := ob_guard hf
  refine va_sld hx hb hX hbl hbA hS hg98 dL_law_619 ?_
  refine lv_aload_n hx hb dL_law_620 rfl (lv_at hl 0 rfl) ?_
  refine lv_iload_n hx hb dL_law_621 rfl (lv_at hl 3 rfl) ?_
  refine lv_iconst (v := 4) hx hb dL_law_622 (by decide) ?_
  refine lv_iadd hx hb dL_law_623 ?_
  obtain ⟨hg99, hf⟩ := ob_guard hf
  refine va_sld hx hb hX hbl hbA hS hg99 dL_law_624 ?_
  obtain ⟨r100, hr100, hf⟩ := ob_bind hf
  have hPc : va_P G.1 vwCl (ce_X5 G.2.1 a1 S1) H := zp_left hP
  have hDc : va_D A (ce_X5 G.2.1 a1 S1) := zd_left hD
  have hFc := zf_of hDc hS hA
  refine zc_wrL (cf := (fun u => ce_X5 G.2.1 a1 u)) (va_runV (As := [.int (xs (v3 + 1).toNatClampNeg), .int (xs (v3 + 2).toNatClampNeg), .int (xs (v3 + 3).toNatClampNeg), .int (xs (v3 + 4).toNatClampNeg)]) (rest := []) ⟨hx, hb, hml, hown, hts⟩ (c_X5_reading l G a1 H.size S1 (xs (v3 + 1).toNatClampNeg) (xs (v3 + 2).toNatClampNeg) (xs (v3 + 3).toNatClampNeg) (xs (v3 + 4).toNatClampNeg) _ hr100) (cwV 4 hts gL_law_X5_reading rfl rfl rfl (by decide +kernel) ⟨Nat.le_of_ble_eq_true rfl, Nat.le_of_ble_eq_true rfl⟩) ⟨PcM.blind, va_recv hK hPc (ci := 5) (q0 := 0) rfl rfl, PcM.ok hPc hDc hK hE hS hFc⟩ rfl rfl hl.1 rfl (lv_room (Nat.le_of_ble_eq_true rfl)) dL_law_625 ⟨Nat.le_refl _, Nat.le_refl _⟩) hP hD hS hA (fun H locs hP hD hS => ?_)
  refine lv_aload_n hx hb dL_law_628 rfl (lv_at hl 2 rfl) ?_
  refine lv_aload_n hx hb dL_law_629 rfl (lv_at hl 0 rfl) ?_
  refine lv_iload_n hx hb dL_law_630 rfl (lv_at hl 3 rfl) ?_
  refine lv_iconst (v := 1) hx hb dL_law_631 (by decide) ?_
  refine lv_iadd hx hb dL_law_632 ?_
  obtain ⟨hg101, hf⟩ := ob_guard hf
  refine va_sld hx hb hX hbl hbA hS hg101 dL_law_633 ?_
  refine lv_aload_n hx hb dL_law_634 rfl (lv_at hl 0 rfl) ?_
  refine lv_iload_n hx hb dL_law_635 rfl (lv_at hl 3 rfl) ?_
  refine lv_iconst (v := 2) hx hb dL_law_636 (by decide) ?_
  refine lv_iadd hx hb dL_law_637 ?_
  obtain ⟨hg102, hf⟩ := ob_guard hf
  refine va_sld hx hb hX hbl hbA hS hg102 dL_law_638 ?_
  refine lv_aload_n hx hb dL_law_639 rfl (lv_at hl 0 rfl) ?_
  refine lv_iload_n hx hb dL_law_640 rfl (lv_at hl 3 rfl) ?_
  refine lv_iconst (v := 3) hx hb dL_law_641 (by decide) ?_
  refine lv_iadd hx hb dL_law_642 ?_
  obtain ⟨hg103, hf⟩ := ob_guard hf
  refine va_sld hx hb hX hbl hbA hS hg103 dL_law_643 ?_
  refine lv_aload_n hx hb dL_law_644 rfl (lv_at hl 0 rfl) ?_
  refine lv_iload_n hx hb dL_law_645 rfl (lv_at hl 3 rfl) ?_
  refine lv_iconst (v := 4) hx hb dL_law_646 (by decide) ?_
  refine lv_iadd hx hb dL_law_647 ?_
  obtain ⟨hg104, hf⟩ := ob_guard hf
  refine va_sld hx hb hX hbl hbA hS hg104 dL_law_648 ?_
  obtain ⟨r105, hr105, hf⟩ := ob_bind hf
  have hPc : va_P G.1 vwCl (ce_X6 G.2.1 a2 S2) H := zp_right hP
  have hDc : va_D A (ce_X6 G.2.1 a2 S2) := zd_right hD
  have hFc := zf_of hDc hS hA
  refine zc_wrR (cf := (fun u => ce_X6 G.2.1 a2 u)) (va_runV (As := [.int (xs (v3 + 1).toNatClampNeg), .int (xs (v3 + 2).toNatClampNeg), .int (xs (v3 + 3).toNatClampNeg), .int (xs (v3 + 4).toNatClampNeg)]) (rest := [.int r100.1]) ⟨hx, hb, hml, hown, hts⟩ (c_X6_reading l G a2 H.size S2 (xs (v3 + 1).toNatClampNeg) (xs (v3 + 2).toNatClampNeg) (xs (v3 + 3).toNatClampNeg) (xs (v3 + 4).toNatClampNeg) _ hr105) (cwV 4 hts gL_law_X6_reading rfl rfl rfl (by decide +kernel) ⟨Nat.le_of_ble_eq_true rfl, Nat.le_of_ble_eq_true rfl⟩) ⟨PcM.blind, va_recv hK hPc (ci := 6) (q0 := 0) rfl rfl, PcM.ok hPc hDc hK hE hS hFc⟩ rfl rfl hl.1 rfl (lv_room (Nat.le_of_ble_eq_true rfl)) dL_law_649 ⟨Nat.le_refl _, Nat.le_refl _⟩) hP hD hS hA (fun H locs hP hD hS => ?_)
  refine lv_icmp_eq (tgt := 952) hx hb dL_law_652 (by decide) (fun c106 => ?_) (fun c106 => ?_)
  · replace hf := ob_pos c106 hf
    exact blk952 _ _ _ hf _ _ hP hD hS _ (lv_sub hl [0, 1, 2, 3] rfl)
  · replace hf := ob_neg c106 hf
    refine lv_iconst (v := 0) hx hb dL_law_655 (by decide) ?_
    exact absurd hf (by decide)
set_option maxHeartbeats 4000000 in
set_option maxRecDepth 100000 in
theorem law_case_17 {p : Program} {l : Launch} {e : Env} {s : State} {m : MethodId} {below : List Frame} {meth : Method} {c : Code} {b L : Nat} {xs : Nat → Int32} (C0 : lw_At p s m meth c b L xs) (G : zG) (a1 : AT_X5) (a2 : AT_X6) (hK : va_K G.1 vwCl [(G.2.1, .int)] s) (A : Nat → Prop) (hAe : A = fun q : Nat => s.heap.size ≤ q) (hE : EN G A s s.heap) (fu : Nat) (blk952 : ∀ (S1 : ST_X5) (S2 : ST_X6) (v3 : Int32), f_L_law_b952 L xs (f_L_law_b18 L xs fu) S1 S2 v3 = some 1 → ∀ (H : Heap) (locs : List Loc), va_P G.1 vwCl (ce_X5 G.2.1 a1 S1 ++ ce_X6 G.2.1 a2 S2) H → va_D A (ce_X5 G.2.1 a1 S1 ++ ce_X6 G.2.1 a2 S2) → va_S A s.heap H locs → ∀ (ls : Array Slot), lv_has ls 4 [(0, .ref b), (1, .ref a1.1), (2, .ref a2.1), (3, .int v3)] → W p l e room_1 s m #[Value.ref b] below meth c H locs 600000 7302250 (lw_Z below #[Value.ref b] s) (F0 m 952 ls [])) (S1 : ST_X5) (S2 : ST_X6) (v3 : Int32) (hf : ((f_X5_forget S1).bind fun r107 => (f_X6_forget S2).bind fun r108 => if r107.1 = r108.1 then (f_L_law_b952 L xs (f_L_law_b18 L xs fu) r107.2 r108.2 v3) else some 0) = some 1) : ∀ (H : Heap) (locs : List Loc), va_P G.1 vwCl (ce_X5 G.2.1 a1 S1 ++ ce_X6 G.2.1 a2 S2) H → va_D A (ce_X5 G.2.1 a1 S1 ++ ce_X6 G.2.1 a2 S2) → va_S A s.heap H locs → ∀ (ls : Array Slot), lv_has ls 4 [(0, .ref b), (1, .ref a1.1), (2, .ref a2.1), (3, .int v3)] → W p l e room_1 s m #[Value.ref b] below meth c H locs 600000 7302250 (lw_Z below #[Value.ref b] s) (F0 m 657 ls []) := by
  obtain ⟨hx, hb, hr, hml, hown, htsT, hX, hbl, hlocks, hgv⟩ := id C0
  have hown : s.vm.findClass RL = some m.cls := hown
  have hb : c.code = cL_law := hb
  have hts : ∀ w ∈ wsL_law, w.before #[Value.ref b] s = true := fun w h => htsT w (wsL_law_in w h)
  have hA : ∀ q : Nat, s.heap.size ≤ q → A q := fun q h => by rw [hAe]; exact h
  have hbA : ¬ A b := by rw [hAe]; exact Nat.not_le.mpr hbl
  intro H locs hP hD hS ls hl
  refine lv_aload_n hx hb dL_law_657 rfl (lv_at hl 1 rfl) ?_
  obtain ⟨r107, hr107, hf⟩ := ob_bind hf
  have hPc : va_P G.1 vwCl (ce_X5 G.2.1 a1 S1) H := zp_left hP
  have hDc : va_D A (ce_X5 G.2.1 a1 S1) := zd_left hD
  have hFc := zf_of hDc hS hA
  refine zc_wrL (cf := (fun u => ce_X5 G.2.1 a1 u)) (va_runV (As := []) (rest := []) ⟨hx, hb, hml, hown, hts⟩ (c_X5_forget l G a1 H.size S1 _ hr107) (cwV 0 hts gL_law_X5_forget rfl rfl rfl (by decide +kernel) ⟨Nat.le_of_ble_eq_true rfl, Nat.le_of_ble_eq_true rfl⟩) ⟨PcM.blind, va_recv hK hPc (ci := 5) (q0 := 0) rfl rfl, PcM.ok hPc hDc hK hE hS hFc⟩ rfl rfl hl.1 rfl (lv_room (Nat.le_of_ble_eq_true rfl)) dL_law_658 ⟨Nat.le_refl _, Nat.le_refl _⟩) hP hD hS hA (fun H locs hP hD hS => ?_)
  refine lv_aload_n hx hb dL_law_661 rfl (lv_at hl 2 rfl) ?_
  obtain ⟨r108, hr108, hf⟩ := ob_bind hf
  have hPc : va_P G.1 vwCl (ce_X6 G.2.1 a2 S2) H := zp_right hP
  have hDc : va_D A (ce_X6 G.2.1 a2 S2) := zd_right hD
  have hFc := zf_of hDc hS hA
  refine zc_wrR (cf := (fun u => ce_X6 G.2.1 a2 u)) (va_runV (As := []) (rest := [.int r107.1]) ⟨hx, hb, hml, hown, hts⟩ (c_X6_forget l G a2 H.size S2 _ hr108) (cwV 0 hts gL_law_X6_forget rfl rfl rfl (by decide +kernel) ⟨Nat.le_of_ble_eq_true rfl, Nat.le_of_ble_eq_true rfl⟩) ⟨PcM.blind, va_recv hK hPc (ci := 6) (q0 := 0) rfl rfl, PcM.ok hPc hDc hK hE hS hFc⟩ rfl rfl hl.1 rfl (lv_room (Nat.le_of_ble_eq_true rfl)) dL_law_662 ⟨Nat.le_refl _, Nat.le_refl _⟩) hP hD hS hA (fun H locs hP hD hS => ?_)
  refine lv_icmp_eq (tgt := 952) hx hb dL_law_665 (by decide) (fun c109 => ?_) (fun c109 => ?_)
  · replace hf := ob_pos c109 hf
    exact blk952 _ _ _ hf _ _ hP hD hS _ (lv_sub hl [0, 1, 2, 3] rfl)
  · replace hf := ob_neg c109 hf
    refine lv_iconst (v := 0) hx hb dL_law_668 (by decide) ?_
    exact absurd hf (by decide)
set_option maxHeartbeats 4000000 in
set_option maxRecDepth 100000 in
theorem law_case_18 {p : Program} {l : Launch} {e : Env} {s : State} {m : MethodId} {below : List Frame} {meth : Method} {c : Code} {b L : Nat} {xs : Nat → Int32} (C0 : lw_At p s m meth c b L xs) (G : zG) (a1 : AT_X5) (a2 : AT_X6) (hK : va_K G.1 vwCl [(G.2.1, .int)] s) (A : Nat → Prop) (hAe : A = fun q : Nat => s.heap.size ≤ q) (hE : EN G A s s.heap) (fu : Nat) (blk952 : ∀ (S1 : ST_X5) (S2 : ST_X6) (v3 : Int32), f_L_law_b952 L xs (f_L_law_b18 L xs fu) S1 S2 v3 = some 1 → ∀ (H : Heap) (locs : List Loc), va_P G.1 vwCl (ce_X5 G.2.1 a1 S1 ++ ce_X6 G.2.1 a2 S2) H → va_D A (ce_X5 G.2.1 a1 S1 ++ ce_X6 G.2.1 a2 S2) → va_S A s.heap H locs → ∀ (ls : Array Slot), lv_has ls 4 [(0, .ref b), (1, .ref a1.1), (2, .ref a2.1), (3, .int v3)] → W p l e room_1 s m #[Value.ref b] below meth c H locs 600000 7302250 (lw_Z below #[Value.ref b] s) (F0 m 952 ls [])) (S1 : ST_X5) (S2 : ST_X6) (v3 : Int32) (hf : (if inB (v3 + 1) L then (if inB (v3 + 2) L then ((f_X5_fitting S1 (xs (v3 + 1).toNatClampNeg) (xs (v3 + 2).toNatClampNeg)).bind fun r112 => if inB (v3 + 1) L then (if inB (v3 + 2) L then ((f_X6_fitting S2 (xs (v3 + 1).toNatClampNeg) (xs (v3 + 2).toNatClampNeg)).bind fun r115 => if r112.1 = r115.1 then (f_L_law_b952 L xs (f_L_law_b18 L xs fu) r112.2 r115.2 v3) else some 0) else none) else none) else none) else none) = some 1) : ∀ (H : Heap) (locs : List Loc), va_P G.1 vwCl (ce_X5 G.2.1 a1 S1 ++ ce_X6 G.2.1 a2 S2) H → va_D A (ce_X5 G.2.1 a1 S1 ++ ce_X6 G.2.1 a2 S2) → va_S A s.heap H locs → ∀ (ls : Array Slot), lv_has ls 4 [(0, .ref b), (1, .ref a1.1), (2, .ref a2.1), (3, .int v3)] → W p l e room_1 s m #[Value.ref b] below meth c H locs 600000 7302250 (lw_Z below #[Value.ref b] s) (F0 m 670 ls []) := by
  obtain ⟨hx, hb, hr, hml, hown, htsT, hX, hbl, hlocks, hgv⟩ := id C0
  have hown : s.vm.findClass RL = some m.cls := hown
  have hb : c.code = cL_law := hb
  have hts : ∀ w ∈ wsL_law, w.before #[Value.ref b] s = true := fun w h => htsT w (wsL_law_in w h)
  have hA : ∀ q : Nat, s.heap.size ≤ q → A q := fun q h => by rw [hAe]; exact h
  have hbA : ¬ A b := by rw [hAe]; exact Nat.not_le.mpr hbl
  intro H locs hP hD hS ls hl
  refine lv_aload_n hx hb dL_law_670 rfl (lv_at hl 1 rfl) ?_
  refine lv_aload_n hx hb dL_law_671 rfl (lv_at hl 0 rfl) ?_
  refine lv_iload_n hx hb dL_law_672 rfl (lv_at hl 3 rfl) ?_
  refine lv_iconst (v := 1) hx hb dL_law_673 (by decide) ?_
  refine lv_iadd hx hb dL_law_674 ?_
  obtain ⟨hg110, hf⟩ := ob_guard hf
  refine va_sld hx hb hX hbl hbA hS hg110 dL_law_675 ?_
  refine lv_aload_n hx hb dL_law_676 rfl (lv_at hl 0 rfl) ?_
  refine lv_iload_n hx hb dL_law_677 rfl (lv_at hl 3 rfl) ?_
  refine lv_iconst (v := 2) hx hb dL_law_678 (by decide) ?_
  refine lv_iadd hx hb dL_law_679 ?_
  obtain ⟨hg111, hf⟩ := ob_guard hf
  refine va_sld hx hb hX hbl hbA hS hg111 dL_law_680 ?_
  obtain ⟨r112, hr112, hf⟩ := ob_bind hf
  have hPc : va_P G.1 vwCl (ce_X5 G.2.1 a1 S1) H := zp_left hP
  have hDc : va_D A (ce_X5 G.2.1 a1 S1) := zd_left hD
  have hFc := zf_of hDc hS hA
  refine zc_wrL (cf := (fun u => ce_X5 G.2.1 a1 u)) (va_runV (As := [.int (xs (v3 + 1).toNatClampNeg), .int (xs (v3 + 2).toNatClampNeg)]) (rest := []) ⟨hx, hb, hml, hown, hts⟩ (c_X5_fitting l G a1 H.size S1 (xs (v3 + 1).toNatClampNeg) (xs (v3 + 2).toNatClampNeg) _ hr112) (cwV 2 hts gL_law_X5_fitting rfl rfl rfl (by decide +kernel) ⟨Nat.le_of_ble_eq_true rfl, Nat.le_of_ble_eq_true rfl⟩) ⟨PcM.blind, va_recv hK hPc (ci := 5) (q0 := 0) rfl rfl, PcM.ok hPc hDc hK hE hS hFc⟩ rfl rfl hl.1 rfl (lv_room (Nat.le_of_ble_eq_true rfl)) dL_law_681 ⟨Nat.le_refl _, Nat.le_refl _⟩) hP hD hS hA (fun H locs hP hD hS => ?_)
  refine lv_aload_n hx hb dL_law_684 rfl (lv_at hl 2 rfl) ?_
  refine lv_aload_n hx hb dL_law_685 rfl (lv_at hl 0 rfl) ?_
  refine lv_iload_n hx hb dL_law_686 rfl (lv_at hl 3 rfl) ?_
  refine lv_iconst (v := 1) hx hb dL_law_687 (by decide) ?_
  refine lv_iadd hx hb dL_law_688 ?_
  obtain ⟨hg113, hf⟩ := ob_guard hf
  refine va_sld hx hb hX hbl hbA hS hg113 dL_law_689 ?_
  refine lv_aload_n hx hb dL_law_690 rfl (lv_at hl 0 rfl) ?_
  refine lv_iload_n hx hb dL_law_691 rfl (lv_at hl 3 rfl) ?_
  refine lv_iconst (v := 2) hx hb dL_law_692 (by decide) ?_
  refine lv_iadd hx hb dL_law_693 ?_
  obtain ⟨hg114, hf⟩ := ob_guard hf
  refine va_sld hx hb hX hbl hbA hS hg114 dL_law_694 ?_
  obtain ⟨r115, hr115, hf⟩ := ob_bind hf
  have hPc : va_P G.1 vwCl (ce_X6 G.2.1 a2 S2) H := zp_right hP
  have hDc : va_D A (ce_X6 G.2.1 a2 S2) := zd_right hD
  have hFc := zf_of hDc hS hA
  refine zc_wrR (cf := (fun u => ce_X6 G.2.1 a2 u)) (va_runV (As := [.int (xs (v3 + 1).toNatClampNeg), .int (xs (v3 + 2).toNatClampNeg)]) (rest := [.int r112.1]) ⟨hx, hb, hml, hown, hts⟩ (c_X6_fitting l G a2 H.size S2 (xs (v3 + 1).toNatClampNeg) (xs (v3 + 2).toNatClampNeg) _ hr115) (cwV 2 hts gL_law_X6_fitting rfl rfl rfl (by decide +kernel) ⟨Nat.le_of_ble_eq_true rfl, Nat.le_of_ble_eq_true rfl⟩) ⟨PcM.blind, va_recv hK hPc (ci := 6) (q0 := 0) rfl rfl, PcM.ok hPc hDc hK hE hS hFc⟩ rfl rfl hl.1 rfl (lv_room (Nat.le_of_ble_eq_true rfl)) dL_law_695 ⟨Nat.le_refl _, Nat.le_refl _⟩) hP hD hS hA (fun H locs hP hD hS => ?_)
  refine lv_icmp_eq (tgt := 952) hx hb dL_law_698 (by decide) (fun c116 => ?_) (fun c116 => ?_)
  · replace hf := ob_pos c116 hf
    exact blk952 _ _ _ hf _ _ hP hD hS _ (lv_sub hl [0, 1, 2, 3] rfl)
  · replace hf := ob_neg c116 hf
    refine lv_iconst (v := 0) hx hb dL_law_701 (by decide) ?_
    exact absurd hf (by decide)
set_option maxHeartbeats 4000000 in
set_option maxRecDepth 100000 in
theorem law_case_19 {p : Program} {l : Launch} {e : Env} {s : State} {m : MethodId} {below : List Frame} {meth : Method} {c : Code} {b L : Nat} {xs : Nat → Int32} (C0 : lw_At p s m meth c b L xs) (G : zG) (a1 : AT_X5) (a2 : AT_X6) (hK : va_K G.1 vwCl [(G.2.1, .int)] s) (A : Nat → Prop) (hAe : A = fun q : Nat => s.heap.size ≤ q) (hE : EN G A s s.heap) (fu : Nat) (blk952 : ∀ (S1 : ST_X5) (S2 : ST_X6) (v3 : Int32), f_L_law_b952 L xs (f_L_law_b18 L xs fu) S1 S2 v3 = some 1 → ∀ (H : Heap) (locs : List Loc), va_P G.1 vwCl (ce_X5 G.2.1 a1 S1 ++ ce_X6 G.2.1 a2 S2) H → va_D A (ce_X5 G.2.1 a1 S1 ++ ce_X6 G.2.1 a2 S2) → va_S A s.heap H locs → ∀ (ls : Array Slot), lv_has ls 4 [(0, .ref b), (1, .ref a1.1), (2, .ref a2.1), (3, .int v3)] → W p l e room_1 s m #[Value.ref b] below meth c H locs 600000 7302250 (lw_Z below #[Value.ref b] s) (F0 m 952 ls [])) (S1 : ST_X5) (S2 : ST_X6) (v3 : Int32) (hf : ((f_X5_madeUp S1).bind fun r117 => (f_X6_madeUp S2).bind fun r118 => if r117 = r118 then (f_L_law_b952 L xs (f_L_law_b18 L xs fu) S1 S2 v3) else some 0) = some 1) : ∀ (H : Heap) (locs : List Loc), va_P G.1 vwCl (ce_X5 G.2.1 a1 S1 ++ ce_X6 G.2.1 a2 S2) H → va_D A (ce_X5 G.2.1 a1 S1 ++ ce_X6 G.2.1 a2 S2) → va_S A s.heap H locs → ∀ (ls : Array Slot), lv_has ls 4 [(0, .ref b), (1, .ref a1.1), (2, .ref a2.1), (3, .int v3)] → W p l e room_1 s m #[Value.ref b] below meth c H locs 600000 7302250 (lw_Z below #[Value.ref b] s) (F0 m 703 ls []) := by
  obtain ⟨hx, hb, hr, hml, hown, htsT, hX, hbl, hlocks, hgv⟩ := id C0
  have hown : s.vm.findClass RL = some m.cls := hown
  have hb : c.code = cL_law := hb
  have hts : ∀ w ∈ wsL_law, w.before #[Value.ref b] s = true := fun w h => htsT w (wsL_law_in w h)
  have hA : ∀ q : Nat, s.heap.size ≤ q → A q := fun q h => by rw [hAe]; exact h
  have hbA : ¬ A b := by rw [hAe]; exact Nat.not_le.mpr hbl
  intro H locs hP hD hS ls hl
  refine lv_aload_n hx hb dL_law_703 rfl (lv_at hl 1 rfl) ?_
  obtain ⟨r117, hr117, hf⟩ := ob_bind hf
  have hPc : va_P G.1 vwCl (ce_X5 G.2.1 a1 S1) H := zp_left hP
  have hDc : va_D A (ce_X5 G.2.1 a1 S1) := zd_left hD
  have hFc := zf_of hDc hS hA
  refine zc_roL (va_runV (As := []) (rest := []) ⟨hx, hb, hml, hown, hts⟩ (c_X5_madeUp l G a1 H.size S1 _ hr117) (cwV 0 hts gL_law_X5_madeUp rfl rfl rfl (by decide +kernel) ⟨Nat.le_of_ble_eq_true rfl, Nat.le_of_ble_eq_true rfl⟩) ⟨PcM.blind, va_recv hK hPc (ci := 5) (q0 := 0) rfl rfl, PcM.ok hPc hDc hK hE hS hFc⟩ rfl rfl hl.1 rfl (lv_room (Nat.le_of_ble_eq_true rfl)) dL_law_704 ⟨Nat.le_refl _, Nat.le_refl _⟩) hP hD hS hA (fun H locs hP hD hS => ?_)
  refine lv_aload_n hx hb dL_law_707 rfl (lv_at hl 2 rfl) ?_
  obtain ⟨r118, hr118, hf⟩ := ob_bind hf
  have hPc : va_P G.1 vwCl (ce_X6 G.2.1 a2 S2) H := zp_right hP
  have hDc : va_D A (ce_X6 G.2.1 a2 S2) := zd_right hD
  have hFc := zf_of hDc hS hA
  refine zc_roR (va_runV (As := []) (rest := [.int r117]) ⟨hx, hb, hml, hown, hts⟩ (c_X6_madeUp l G a2 H.size S2 _ hr118) (cwV 0 hts gL_law_X6_madeUp rfl rfl rfl (by decide +kernel) ⟨Nat.le_of_ble_eq_true rfl, Nat.le_of_ble_eq_true rfl⟩) ⟨PcM.blind, va_recv hK hPc (ci := 6) (q0 := 0) rfl rfl, PcM.ok hPc hDc hK hE hS hFc⟩ rfl rfl hl.1 rfl (lv_room (Nat.le_of_ble_eq_true rfl)) dL_law_708 ⟨Nat.le_refl _, Nat.le_refl _⟩) hP hD hS hA (fun H locs hP hD hS => ?_)
  refine lv_icmp_eq (tgt := 952) hx hb dL_law_711 (by decide) (fun c119 => ?_) (fun c119 => ?_)
  · replace hf := ob_pos c119 hf
    exact blk952 _ _ _ hf _ _ hP hD hS _ (lv_sub hl [0, 1, 2, 3] rfl)
  · replace hf := ob_neg c119 hf
    refine lv_iconst (v := 0) hx hb dL_law_714 (by decide) ?_
    exact absurd hf (by decide)
set_option maxHeartbeats 4000000 in
set_option maxRecDepth 100000 in
theorem law_case_20 {p : Program} {l : Launch} {e : Env} {s : State} {m : MethodId} {below : List Frame} {meth : Method} {c : Code} {b L : Nat} {xs : Nat → Int32} (C0 : lw_At p s m meth c b L xs) (G : zG) (a1 : AT_X5) (a2 : AT_X6) (hK : va_K G.1 vwCl [(G.2.1, .int)] s) (A : Nat → Prop) (hAe : A = fun q : Nat => s.heap.size ≤ q) (hE : EN G A s s.heap) (fu : Nat) (blk952 : ∀ (S1 : ST_X5) (S2 : ST_X6) (v3 : Int32), f_L_law_b952 L xs (f_L_law_b18 L xs fu) S1 S2 v3 = some 1 → ∀ (H : Heap) (locs : List Loc), va_P G.1 vwCl (ce_X5 G.2.1 a1 S1 ++ ce_X6 G.2.1 a2 S2) H → va_D A (ce_X5 G.2.1 a1 S1 ++ ce_X6 G.2.1 a2 S2) → va_S A s.heap H locs → ∀ (ls : Array Slot), lv_has ls 4 [(0, .ref b), (1, .ref a1.1), (2, .ref a2.1), (3, .int v3)] → W p l e room_1 s m #[Value.ref b] below meth c H locs 600000 7302250 (lw_Z below #[Value.ref b] s) (F0 m 952 ls [])) (S1 : ST_X5) (S2 : ST_X6) (v3 : Int32) (hf : ((f_X5_liars S1).bind fun r120 => (f_X6_liars S2).bind fun r121 => if r120 = r121 then (f_L_law_b952 L xs (f_L_law_b18 L xs fu) S1 S2 v3) else some 0) = some 1) : ∀ (H : Heap) (locs : List Loc), va_P G.1 vwCl (ce_X5 G.2.1 a1 S1 ++ ce_X6 G.2.1 a2 S2) H → va_D A (ce_X5 G.2.1 a1 S1 ++ ce_X6 G.2.1 a2 S2) → va_S A s.heap H locs → ∀ (ls : Array Slot), lv_has ls 4 [(0, .ref b), (1, .ref a1.1), (2, .ref a2.1), (3, .int v3)] → W p l e room_1 s m #[Value.ref b] below meth c H locs 600000 7302250 (lw_Z below #[Value.ref b] s) (F0 m 716 ls []) := by
  obtain ⟨hx, hb, hr, hml, hown, htsT, hX, hbl, hlocks, hgv⟩ := id C0
  have hown : s.vm.findClass RL = some m.cls := hown
  have hb : c.code = cL_law := hb
  have hts : ∀ w ∈ wsL_law, w.before #[Value.ref b] s = true := fun w h => htsT w (wsL_law_in w h)
  have hA : ∀ q : Nat, s.heap.size ≤ q → A q := fun q h => by rw [hAe]; exact h
  have hbA : ¬ A b := by rw [hAe]; exact Nat.not_le.mpr hbl
  intro H locs hP hD hS ls hl
  refine lv_aload_n hx hb dL_law_716 rfl (lv_at hl 1 rfl) ?_
  obtain ⟨r120, hr120, hf⟩ := ob_bind hf
  have hPc : va_P G.1 vwCl (ce_X5 G.2.1 a1 S1) H := zp_left hP
  have hDc : va_D A (ce_X5 G.2.1 a1 S1) := zd_left hD
  have hFc := zf_of hDc hS hA
  refine zc_roL (va_runV (As := []) (rest := []) ⟨hx, hb, hml, hown, hts⟩ (c_X5_liars l G a1 H.size S1 _ hr120) (cwV 0 hts gL_law_X5_liars rfl rfl rfl (by decide +kernel) ⟨Nat.le_of_ble_eq_true rfl, Nat.le_of_ble_eq_true rfl⟩) ⟨PcM.blind, va_recv hK hPc (ci := 5) (q0 := 0) rfl rfl, PcM.ok hPc hDc hK hE hS hFc⟩ rfl rfl hl.1 rfl (lv_room (Nat.le_of_ble_eq_true rfl)) dL_law_717 ⟨Nat.le_refl _, Nat.le_refl _⟩) hP hD hS hA (fun H locs hP hD hS => ?_)
  refine lv_aload_n hx hb dL_law_720 rfl (lv_at hl 2 rfl) ?_
  obtain ⟨r121, hr121, hf⟩ := ob_bind hf
  have hPc : va_P G.1 vwCl (ce_X6 G.2.1 a2 S2) H := zp_right hP
  have hDc : va_D A (ce_X6 G.2.1 a2 S2) := zd_right hD
  have hFc := zf_of hDc hS hA
  refine zc_roR (va_runV (As := []) (rest := [.int r120]) ⟨hx, hb, hml, hown, hts⟩ (c_X6_liars l G a2 H.size S2 _ hr121) (cwV 0 hts gL_law_X6_liars rfl rfl rfl (by decide +kernel) ⟨Nat.le_of_ble_eq_true rfl, Nat.le_of_ble_eq_true rfl⟩) ⟨PcM.blind, va_recv hK hPc (ci := 6) (q0 := 0) rfl rfl, PcM.ok hPc hDc hK hE hS hFc⟩ rfl rfl hl.1 rfl (lv_room (Nat.le_of_ble_eq_true rfl)) dL_law_721 ⟨Nat.le_refl _, Nat.le_refl _⟩) hP hD hS hA (fun H locs hP hD hS => ?_)
  refine lv_icmp_eq (tgt := 952) hx hb dL_law_724 (by decide) (fun c122 => ?_) (fun c122 => ?_)
  · replace hf := ob_pos c122 hf
    exact blk952 _ _ _ hf _ _ hP hD hS _ (lv_sub hl [0, 1, 2, 3] rfl)
  · replace hf := ob_neg c122 hf
    refine lv_iconst (v := 0) hx hb dL_law_727 (by decide) ?_
    exact absurd hf (by decide)
set_option maxHeartbeats 4000000 in
set_option maxRecDepth 100000 in
theorem law_case_21 {p : Program} {l : Launch} {e : Env} {s : State} {m : MethodId} {below : List Frame} {meth : Method} {c : Code} {b L : Nat} {xs : Nat → Int32} (C0 : lw_At p s m meth c b L xs) (G : zG) (a1 : AT_X5) (a2 : AT_X6) (hK : va_K G.1 vwCl [(G.2.1, .int)] s) (A : Nat → Prop) (hAe : A = fun q : Nat => s.heap.size ≤ q) (hE : EN G A s s.heap) (fu : Nat) (blk952 : ∀ (S1 : ST_X5) (S2 : ST_X6) (v3 : Int32), f_L_law_b952 L xs (f_L_law_b18 L xs fu) S1 S2 v3 = some 1 → ∀ (H : Heap) (locs : List Loc), va_P G.1 vwCl (ce_X5 G.2.1 a1 S1 ++ ce_X6 G.2.1 a2 S2) H → va_D A (ce_X5 G.2.1 a1 S1 ++ ce_X6 G.2.1 a2 S2) → va_S A s.heap H locs → ∀ (ls : Array Slot), lv_has ls 4 [(0, .ref b), (1, .ref a1.1), (2, .ref a2.1), (3, .int v3)] → W p l e room_1 s m #[Value.ref b] below meth c H locs 600000 7302250 (lw_Z below #[Value.ref b] s) (F0 m 952 ls [])) (S1 : ST_X5) (S2 : ST_X6) (v3 : Int32) (hf : (if inB (v3 + 1) L then ((f_X5_clash S1 (xs (v3 + 1).toNatClampNeg)).bind fun r124 => if inB (v3 + 1) L then ((f_X6_clash S2 (xs (v3 + 1).toNatClampNeg)).bind fun r126 => if r124.1 = r126.1 then (f_L_law_b952 L xs (f_L_law_b18 L xs fu) r124.2 r126.2 v3) else some 0) else none) else none) = some 1) : ∀ (H : Heap) (locs : List Loc), va_P G.1 vwCl (ce_X5 G.2.1 a1 S1 ++ ce_X6 G.2.1 a2 S2) H → va_D A (ce_X5 G.2.1 a1 S1 ++ ce_X6 G.2.1 a2 S2) → va_S A s.heap H locs → ∀ (ls : Array Slot), lv_has ls 4 [(0, .ref b), (1, .ref a1.1), (2, .ref a2.1), (3, .int v3)] → W p l e room_1 s m #[Value.ref b] below meth c H locs 600000 7302250 (lw_Z below #[Value.ref b] s) (F0 m 729 ls []) := by
  obtain ⟨hx, hb, hr, hml, hown, htsT, hX, hbl, hlocks, hgv⟩ := id C0
  have hown : s.vm.findClass RL = some m.cls := hown
  have hb : c.code = cL_law := hb
  have hts : ∀ w ∈ wsL_law, w.before #[Value.ref b] s = true := fun w h => htsT w (wsL_law_in w h)
  have hA : ∀ q : Nat, s.heap.size ≤ q → A q := fun q h => by rw [hAe]; exact h
  have hbA : ¬ A b := by rw [hAe]; exact Nat.not_le.mpr hbl
  intro H locs hP hD hS ls hl
  refine lv_aload_n hx hb dL_law_729 rfl (lv_at hl 1 rfl) ?_
  refine lv_aload_n hx hb dL_law_730 rfl (lv_at hl 0 rfl) ?_
  refine lv_iload_n hx hb dL_law_731 rfl (lv_at hl 3 rfl) ?_
  refine lv_iconst (v := 1) hx hb dL_law_732 (by decide) ?_
  refine lv_iadd hx hb dL_law_733 ?_
  obtain ⟨hg123, hf⟩ := ob_guard hf
  refine va_sld hx hb hX hbl hbA hS hg123 dL_law_734 ?_
  obtain ⟨r124, hr124, hf⟩ := ob_bind hf
  have hPc : va_P G.1 vwCl (ce_X5 G.2.1 a1 S1) H := zp_left hP
  have hDc : va_D A (ce_X5 G.2.1 a1 S1) := zd_left hD
  have hFc := zf_of hDc hS hA
  refine zc_wrL (cf := (fun u => ce_X5 G.2.1 a1 u)) (va_runV (As := [.int (xs (v3 + 1).toNatClampNeg)]) (rest := []) ⟨hx, hb, hml, hown, hts⟩ (c_X5_clash l G a1 H.size S1 (xs (v3 + 1).toNatClampNeg) _ hr124) (cwV 1 hts gL_law_X5_clash rfl rfl rfl (by decide +kernel) ⟨Nat.le_of_ble_eq_true rfl, Nat.le_of_ble_eq_true rfl⟩) ⟨PcM.blind, va_recv hK hPc (ci := 5) (q0 := 0) rfl rfl, PcM.ok hPc hDc hK hE hS hFc⟩ rfl rfl hl.1 rfl (lv_room (Nat.le_of_ble_eq_true rfl)) dL_law_735 ⟨Nat.le_refl _, Nat.le_refl _⟩) hP hD hS hA (fun H locs hP hD hS => ?_)
  refine lv_aload_n hx hb dL_law_738 rfl (lv_at hl 2 rfl) ?_
  refine lv_aload_n hx hb dL_law_739 rfl (lv_at hl 0 rfl) ?_
  refine lv_iload_n hx hb dL_law_740 rfl (lv_at hl 3 rfl) ?_
  refine lv_iconst (v := 1) hx hb dL_law_741 (by decide) ?_
  refine lv_iadd hx hb dL_law_742 ?_
  obtain ⟨hg125, hf⟩ := ob_guard hf
  refine va_sld hx hb hX hbl hbA hS hg125 dL_law_743 ?_
  obtain ⟨r126, hr126, hf⟩ := ob_bind hf
  have hPc : va_P G.1 vwCl (ce_X6 G.2.1 a2 S2) H := zp_right hP
  have hDc : va_D A (ce_X6 G.2.1 a2 S2) := zd_right hD
  have hFc := zf_of hDc hS hA
  refine zc_wrR (cf := (fun u => ce_X6 G.2.1 a2 u)) (va_runV (As := [.int (xs (v3 + 1).toNatClampNeg)]) (rest := [.int r124.1]) ⟨hx, hb, hml, hown, hts⟩ (c_X6_clash l G a2 H.size S2 (xs (v3 + 1).toNatClampNeg) _ hr126) (cwV 1 hts gL_law_X6_clash rfl rfl rfl (by decide +kernel) ⟨Nat.le_of_ble_eq_true rfl, Nat.le_of_ble_eq_true rfl⟩) ⟨PcM.blind, va_recv hK hPc (ci := 6) (q0 := 0) rfl rfl, PcM.ok hPc hDc hK hE hS hFc⟩ rfl rfl hl.1 rfl (lv_room (Nat.le_of_ble_eq_true rfl)) dL_law_744 ⟨Nat.le_refl _, Nat.le_refl _⟩) hP hD hS hA (fun H locs hP hD hS => ?_)
  refine lv_icmp_eq (tgt := 952) hx hb dL_law_747 (by decide) (fun c127 => ?_) (fun c127 => ?_)
  · replace hf := ob_pos c127 hf
    exact blk952 _ _ _ hf _ _ hP hD hS _ (lv_sub hl [0, 1, 2, 3] rfl)
  · replace hf := ob_neg c127 hf
    refine lv_iconst (v := 0) hx hb dL_law_750 (by decide) ?_
    exact absurd hf (by decide)
set_option maxHeartbeats 4000000 in
set_option maxRecDepth 100000 in
theorem law_case_22 {p : Program} {l : Launch} {e : Env} {s : State} {m : MethodId} {below : List Frame} {meth : Method} {c : Code} {b L : Nat} {xs : Nat → Int32} (C0 : lw_At p s m meth c b L xs) (G : zG) (a1 : AT_X5) (a2 : AT_X6) (hK : va_K G.1 vwCl [(G.2.1, .int)] s) (A : Nat → Prop) (hAe : A = fun q : Nat => s.heap.size ≤ q) (hE : EN G A s s.heap) (fu : Nat) (blk952 : ∀ (S1 : ST_X5) (S2 : ST_X6) (v3 : Int32), f_L_law_b952 L xs (f_L_law_b18 L xs fu) S1 S2 v3 = some 1 → ∀ (H : Heap) (locs : List Loc), va_P G.1 vwCl (ce_X5 G.2.1 a1 S1 ++ ce_X6 G.2.1 a2 S2) H → va_D A (ce_X5 G.2.1 a1 S1 ++ ce_X6 G.2.1 a2 S2) → va_S A s.heap H locs → ∀ (ls : Array Slot), lv_has ls 4 [(0, .ref b), (1, .ref a1.1), (2, .ref a2.1), (3, .int v3)] → W p l e room_1 s m #[Value.ref b] below meth c H locs 600000 7302250 (lw_Z below #[Value.ref b] s) (F0 m 952 ls [])) (S1 : ST_X5) (S2 : ST_X6) (v3 : Int32) (hf : ((f_X5_sure S1).bind fun r128 => (f_X6_sure S2).bind fun r129 => if r128 = r129 then (f_L_law_b952 L xs (f_L_law_b18 L xs fu) S1 S2 v3) else some 0) = some 1) : ∀ (H : Heap) (locs : List Loc), va_P G.1 vwCl (ce_X5 G.2.1 a1 S1 ++ ce_X6 G.2.1 a2 S2) H → va_D A (ce_X5 G.2.1 a1 S1 ++ ce_X6 G.2.1 a2 S2) → va_S A s.heap H locs → ∀ (ls : Array Slot), lv_has ls 4 [(0, .ref b), (1, .ref a1.1), (2, .ref a2.1), (3, .int v3)] → W p l e room_1 s m #[Value.ref b] below meth c H locs 600000 7302250 (lw_Z below #[Value.ref b] s) (F0 m 752 ls []) := by
  obtain ⟨hx, hb, hr, hml, hown, htsT, hX, hbl, hlocks, hgv⟩ := id C0
  have hown : s.vm.findClass RL = some m.cls := hown
  have hb : c.code = cL_law := hb
  have hts : ∀ w ∈ wsL_law, w.before #[Value.ref b] s = true := fun w h => htsT w (wsL_law_in w h)
  have hA : ∀ q : Nat, s.heap.size ≤ q → A q := fun q h => by rw [hAe]; exact h
  have hbA : ¬ A b := by rw [hAe]; exact Nat.not_le.mpr hbl
  intro H locs hP hD hS ls hl
  refine lv_aload_n hx hb dL_law_752 rfl (lv_at hl 1 rfl) ?_
  obtain ⟨r128, hr128, hf⟩ := ob_bind hf
  have hPc : va_P G.1 vwCl (ce_X5 G.2.1 a1 S1) H := zp_left hP
  have hDc : va_D A (ce_X5 G.2.1 a1 S1) := zd_left hD
  have hFc := zf_of hDc hS hA
  refine zc_roL (va_runV (As := []) (rest := []) ⟨hx, hb, hml, hown, hts⟩ (c_X5_sure l G a1 H.size S1 _ hr128) (cwV 0 hts gL_law_X5_sure rfl rfl rfl (by decide +kernel) ⟨Nat.le_of_ble_eq_true rfl, Nat.le_of_ble_eq_true rfl⟩) ⟨PcM.blind, va_recv hK hPc (ci := 5) (q0 := 0) rfl rfl, PcM.ok hPc hDc hK hE hS hFc⟩ rfl rfl hl.1 rfl (lv_room (Nat.le_of_ble_eq_true rfl)) dL_law_753 ⟨Nat.le_refl _, Nat.le_refl _⟩) hP hD hS hA (fun H locs hP hD hS => ?_)
  refine lv_aload_n hx hb dL_law_756 rfl (lv_at hl 2 rfl) ?_
  obtain ⟨r129, hr129, hf⟩ := ob_bind hf
  have hPc : va_P G.1 vwCl (ce_X6 G.2.1 a2 S2) H := zp_right hP
  have hDc : va_D A (ce_X6 G.2.1 a2 S2) := zd_right hD
  have hFc := zf_of hDc hS hA
  refine zc_roR (va_runV (As := []) (rest := [.int r128]) ⟨hx, hb, hml, hown, hts⟩ (c_X6_sure l G a2 H.size S2 _ hr129) (cwV 0 hts gL_law_X6_sure rfl rfl rfl (by decide +kernel) ⟨Nat.le_of_ble_eq_true rfl, Nat.le_of_ble_eq_true rfl⟩) ⟨PcM.blind, va_recv hK hPc (ci := 6) (q0 := 0) rfl rfl, PcM.ok hPc hDc hK hE hS hFc⟩ rfl rfl hl.1 rfl (lv_room (Nat.le_of_ble_eq_true rfl)) dL_law_757 ⟨Nat.le_refl _, Nat.le_refl _⟩) hP hD hS hA (fun H locs hP hD hS => ?_)
  refine lv_icmp_eq (tgt := 952) hx hb dL_law_760 (by decide) (fun c130 => ?_) (fun c130 => ?_)
  · replace hf := ob_pos c130 hf
    exact blk952 _ _ _ hf _ _ hP hD hS _ (lv_sub hl [0, 1, 2, 3] rfl)
  · replace hf := ob_neg c130 hf
    refine lv_iconst (v := 0) hx hb dL_law_763 (by decide) ?_
    exact absurd hf (by decide)
set_option maxHeartbeats 4000000 in
set_option maxRecDepth 100000 in
theorem law_case_23 {p : Program} {l : Launch} {e : Env} {s : State} {m : MethodId} {below : List Frame} {meth : Method} {c : Code} {b L : Nat} {xs : Nat → Int32} (C0 : lw_At p s m meth c b L xs) (G : zG) (a1 : AT_X5) (a2 : AT_X6) (hK : va_K G.1 vwCl [(G.2.1, .int)] s) (A : Nat → Prop) (hAe : A = fun q : Nat => s.heap.size ≤ q) (hE : EN G A s s.heap) (fu : Nat) (blk952 : ∀ (S1 : ST_X5) (S2 : ST_X6) (v3 : Int32), f_L_law_b952 L xs (f_L_law_b18 L xs fu) S1 S2 v3 = some 1 → ∀ (H : Heap) (locs : List Loc), va_P G.1 vwCl (ce_X5 G.2.1 a1 S1 ++ ce_X6 G.2.1 a2 S2) H → va_D A (ce_X5 G.2.1 a1 S1 ++ ce_X6 G.2.1 a2 S2) → va_S A s.heap H locs → ∀ (ls : Array Slot), lv_has ls 4 [(0, .ref b), (1, .ref a1.1), (2, .ref a2.1), (3, .int v3)] → W p l e room_1 s m #[Value.ref b] below meth c H locs 600000 7302250 (lw_Z below #[Value.ref b] s) (F0 m 952 ls [])) (S1 : ST_X5) (S2 : ST_X6) (v3 : Int32) (hf : (if inB (v3 + 1) L then (if inB (v3 + 2) L then ((f_X5_pairs S1 (xs (v3 + 1).toNatClampNeg) (xs (v3 + 2).toNatClampNeg)).bind fun r133 => if inB (v3 + 1) L then (if inB (v3 + 2) L then ((f_X6_pairs S2 (xs (v3 + 1).toNatClampNeg) (xs (v3 + 2).toNatClampNeg)).bind fun r136 => if r133.1 = r136.1 then (f_L_law_b952 L xs (f_L_law_b18 L xs fu) r133.2 r136.2 v3) else some 0) else none) else none) else none) else none) = some 1) : ∀ (H : Heap) (locs : List Loc), va_P G.1 vwCl (ce_X5 G.2.1 a1 S1 ++ ce_X6 G.2.1 a2 S2) H → va_D A (ce_X5 G.2.1 a1 S1 ++ ce_X6 G.2.1 a2 S2) → va_S A s.heap H locs → ∀ (ls : Array Slot), lv_has ls 4 [(0, .ref b), (1, .ref a1.1), (2, .ref a2.1), (3, .int v3)] → W p l e room_1 s m #[Value.ref b] below meth c H locs 600000 7302250 (lw_Z below #[Value.ref b] s) (F0 m 765 ls []) := by
  obtain ⟨hx, hb, hr, hml, hown, htsT, hX, hbl, hlocks, hgv⟩ := id C0
  have hown : s.vm.findClass RL = some m.cls := hown
  have hb : c.code = cL_law := hb
  have hts : ∀ w ∈ wsL_law, w.before #[Value.ref b] s = true := fun w h => htsT w (wsL_law_in w h)
  have hA : ∀ q : Nat, s.heap.size ≤ q → A q := fun q h => by rw [hAe]; exact h
  have hbA : ¬ A b := by rw [hAe]; exact Nat.not_le.mpr hbl
  intro H locs hP hD hS ls hl
  refine lv_aload_n hx hb dL_law_765 rfl (lv_at hl 1 rfl) ?_
  refine lv_aload_n hx hb dL_law_766 rfl (lv_at hl 0 rfl) ?_
  refine lv_iload_n hx hb dL_law_767 rfl (lv_at hl 3 rfl) ?_
  refine lv_iconst (v := 1) hx hb dL_law_768 (by decide) ?_
  refine lv_iadd hx hb dL_law_769 ?_
  obtain ⟨hg131, hf⟩ := ob_guard hf
  refine va_sld hx hb hX hbl hbA hS hg131 dL_law_770 ?_
  refine lv_aload_n hx hb dL_law_771 rfl (lv_at hl 0 rfl) ?_
  refine lv_iload_n hx hb dL_law_772 rfl (lv_at hl 3 rfl) ?_
  refine lv_iconst (v := 2) hx hb dL_law_773 (by decide) ?_
  refine lv_iadd hx hb dL_law_774 ?_
  obtain ⟨hg132, hf⟩ := ob_guard hf
  refine va_sld hx hb hX hbl hbA hS hg132 dL_law_775 ?_
  obtain ⟨r133, hr133, hf⟩ := ob_bind hf
  have hPc : va_P G.1 vwCl (ce_X5 G.2.1 a1 S1) H := zp_left hP
  have hDc : va_D A (ce_X5 G.2.1 a1 S1) := zd_left hD
  have hFc := zf_of hDc hS hA
  refine zc_wrL (cf := (fun u => ce_X5 G.2.1 a1 u)) (va_runV (As := [.int (xs (v3 + 1).toNatClampNeg), .int (xs (v3 + 2).toNatClampNeg)]) (rest := []) ⟨hx, hb, hml, hown, hts⟩ (c_X5_pairs l G a1 H.size S1 (xs (v3 + 1).toNatClampNeg) (xs (v3 + 2).toNatClampNeg) _ hr133) (cwV 2 hts gL_law_X5_pairs rfl rfl rfl (by decide +kernel) ⟨Nat.le_of_ble_eq_true rfl, Nat.le_of_ble_eq_true rfl⟩) ⟨PcM.blind, va_recv hK hPc (ci := 5) (q0 := 0) rfl rfl, PcM.ok hPc hDc hK hE hS hFc⟩ rfl rfl hl.1 rfl (lv_room (Nat.le_of_ble_eq_true rfl)) dL_law_776 ⟨Nat.le_refl _, Nat.le_refl _⟩) hP hD hS hA (fun H locs hP hD hS => ?_)
  refine lv_aload_n hx hb dL_law_779 rfl (lv_at hl 2 rfl) ?_
  refine lv_aload_n hx hb dL_law_780 rfl (lv_at hl 0 rfl) ?_
  refine lv_iload_n hx hb dL_law_781 rfl (lv_at hl 3 rfl) ?_
  refine lv_iconst (v := 1) hx hb dL_law_782 (by decide) ?_
  refine lv_iadd hx hb dL_law_783 ?_
  obtain ⟨hg134, hf⟩ := ob_guard hf
  refine va_sld hx hb hX hbl hbA hS hg134 dL_law_784 ?_
  refine lv_aload_n hx hb dL_law_785 rfl (lv_at hl 0 rfl) ?_
  refine lv_iload_n hx hb dL_law_786 rfl (lv_at hl 3 rfl) ?_
  refine lv_iconst (v := 2) hx hb dL_law_787 (by decide) ?_
  refine lv_iadd hx hb dL_law_788 ?_
  obtain ⟨hg135, hf⟩ := ob_guard hf
  refine va_sld hx hb hX hbl hbA hS hg135 dL_law_789 ?_
  obtain ⟨r136, hr136, hf⟩ := ob_bind hf
  have hPc : va_P G.1 vwCl (ce_X6 G.2.1 a2 S2) H := zp_right hP
  have hDc : va_D A (ce_X6 G.2.1 a2 S2) := zd_right hD
  have hFc := zf_of hDc hS hA
  refine zc_wrR (cf := (fun u => ce_X6 G.2.1 a2 u)) (va_runV (As := [.int (xs (v3 + 1).toNatClampNeg), .int (xs (v3 + 2).toNatClampNeg)]) (rest := [.int r133.1]) ⟨hx, hb, hml, hown, hts⟩ (c_X6_pairs l G a2 H.size S2 (xs (v3 + 1).toNatClampNeg) (xs (v3 + 2).toNatClampNeg) _ hr136) (cwV 2 hts gL_law_X6_pairs rfl rfl rfl (by decide +kernel) ⟨Nat.le_of_ble_eq_true rfl, Nat.le_of_ble_eq_true rfl⟩) ⟨PcM.blind, va_recv hK hPc (ci := 6) (q0 := 0) rfl rfl, PcM.ok hPc hDc hK hE hS hFc⟩ rfl rfl hl.1 rfl (lv_room (Nat.le_of_ble_eq_true rfl)) dL_law_790 ⟨Nat.le_refl _, Nat.le_refl _⟩) hP hD hS hA (fun H locs hP hD hS => ?_)
  refine lv_icmp_eq (tgt := 952) hx hb dL_law_793 (by decide) (fun c137 => ?_) (fun c137 => ?_)
  · replace hf := ob_pos c137 hf
    exact blk952 _ _ _ hf _ _ hP hD hS _ (lv_sub hl [0, 1, 2, 3] rfl)
  · replace hf := ob_neg c137 hf
    refine lv_iconst (v := 0) hx hb dL_law_796 (by decide) ?_
    exact absurd hf (by decide)
set_option maxHeartbeats 4000000 in
set_option maxRecDepth 100000 in
theorem law_case_24 {p : Program} {l : Launch} {e : Env} {s : State} {m : MethodId} {below : List Frame} {meth : Method} {c : Code} {b L : Nat} {xs : Nat → Int32} (C0 : lw_At p s m meth c b L xs) (G : zG) (a1 : AT_X5) (a2 : AT_X6) (hK : va_K G.1 vwCl [(G.2.1, .int)] s) (A : Nat → Prop) (hAe : A = fun q : Nat => s.heap.size ≤ q) (hE : EN G A s s.heap) (fu : Nat) (blk952 : ∀ (S1 : ST_X5) (S2 : ST_X6) (v3 : Int32), f_L_law_b952 L xs (f_L_law_b18 L xs fu) S1 S2 v3 = some 1 → ∀ (H : Heap) (locs : List Loc), va_P G.1 vwCl (ce_X5 G.2.1 a1 S1 ++ ce_X6 G.2.1 a2 S2) H → va_D A (ce_X5 G.2.1 a1 S1 ++ ce_X6 G.2.1 a2 S2) → va_S A s.heap H locs → ∀ (ls : Array Slot), lv_has ls 4 [(0, .ref b), (1, .ref a1.1), (2, .ref a2.1), (3, .int v3)] → W p l e room_1 s m #[Value.ref b] below meth c H locs 600000 7302250 (lw_Z below #[Value.ref b] s) (F0 m 952 ls [])) (S1 : ST_X5) (S2 : ST_X6) (v3 : Int32) (hf : ((f_X5_many S1).bind fun r138 => (f_X6_many S2).bind fun r139 => if r138 = r139 then (f_L_law_b952 L xs (f_L_law_b18 L xs fu) S1 S2 v3) else some 0) = some 1) : ∀ (H : Heap) (locs : List Loc), va_P G.1 vwCl (ce_X5 G.2.1 a1 S1 ++ ce_X6 G.2.1 a2 S2) H → va_D A (ce_X5 G.2.1 a1 S1 ++ ce_X6 G.2.1 a2 S2) → va_S A s.heap H locs → ∀ (ls : Array Slot), lv_has ls 4 [(0, .ref b), (1, .ref a1.1), (2, .ref a2.1), (3, .int v3)] → W p l e room_1 s m #[Value.ref b] below meth c H locs 600000 7302250 (lw_Z below #[Value.ref b] s) (F0 m 798 ls []) := by
  obtain ⟨hx, hb, hr, hml, hown, htsT, hX, hbl, hlocks, hgv⟩ := id C0
  have hown : s.vm.findClass RL = some m.cls := hown
  have hb : c.code = cL_law := hb
  have hts : ∀ w ∈ wsL_law, w.before #[Value.ref b] s = true := fun w h => htsT w (wsL_law_in w h)
  have hA : ∀ q : Nat, s.heap.size ≤ q → A q := fun q h => by rw [hAe]; exact h
  have hbA : ¬ A b := by rw [hAe]; exact Nat.not_le.mpr hbl
  intro H locs hP hD hS ls hl
  refine lv_aload_n hx hb dL_law_798 rfl (lv_at hl 1 rfl) ?_
  obtain ⟨r138, hr138, hf⟩ := ob_bind hf
  have hPc : va_P G.1 vwCl (ce_X5 G.2.1 a1 S1) H := zp_left hP
  have hDc : va_D A (ce_X5 G.2.1 a1 S1) := zd_left hD
  have hFc := zf_of hDc hS hA
  refine zc_roL (va_runV (As := []) (rest := []) ⟨hx, hb, hml, hown, hts⟩ (c_X5_many l G a1 H.size S1 _ hr138) (cwV 0 hts gL_law_X5_many rfl rfl rfl (by decide +kernel) ⟨Nat.le_of_ble_eq_true rfl, Nat.le_of_ble_eq_true rfl⟩) ⟨PcM.blind, va_recv hK hPc (ci := 5) (q0 := 0) rfl rfl, PcM.ok hPc hDc hK hE hS hFc⟩ rfl rfl hl.1 rfl (lv_room (Nat.le_of_ble_eq_true rfl)) dL_law_799 ⟨Nat.le_refl _, Nat.le_refl _⟩) hP hD hS hA (fun H locs hP hD hS => ?_)
  refine lv_aload_n hx hb dL_law_802 rfl (lv_at hl 2 rfl) ?_
  obtain ⟨r139, hr139, hf⟩ := ob_bind hf
  have hPc : va_P G.1 vwCl (ce_X6 G.2.1 a2 S2) H := zp_right hP
  have hDc : va_D A (ce_X6 G.2.1 a2 S2) := zd_right hD
  have hFc := zf_of hDc hS hA
  refine zc_roR (va_runV (As := []) (rest := [.int r138]) ⟨hx, hb, hml, hown, hts⟩ (c_X6_many l G a2 H.size S2 _ hr139) (cwV 0 hts gL_law_X6_many rfl rfl rfl (by decide +kernel) ⟨Nat.le_of_ble_eq_true rfl, Nat.le_of_ble_eq_true rfl⟩) ⟨PcM.blind, va_recv hK hPc (ci := 6) (q0 := 0) rfl rfl, PcM.ok hPc hDc hK hE hS hFc⟩ rfl rfl hl.1 rfl (lv_room (Nat.le_of_ble_eq_true rfl)) dL_law_803 ⟨Nat.le_refl _, Nat.le_refl _⟩) hP hD hS hA (fun H locs hP hD hS => ?_)
  refine lv_icmp_eq (tgt := 952) hx hb dL_law_806 (by decide) (fun c140 => ?_) (fun c140 => ?_)
  · replace hf := ob_pos c140 hf
    exact blk952 _ _ _ hf _ _ hP hD hS _ (lv_sub hl [0, 1, 2, 3] rfl)
  · replace hf := ob_neg c140 hf
    refine lv_iconst (v := 0) hx hb dL_law_809 (by decide) ?_
    exact absurd hf (by decide)
set_option maxHeartbeats 4000000 in
set_option maxRecDepth 100000 in
theorem law_case_25 {p : Program} {l : Launch} {e : Env} {s : State} {m : MethodId} {below : List Frame} {meth : Method} {c : Code} {b L : Nat} {xs : Nat → Int32} (C0 : lw_At p s m meth c b L xs) (G : zG) (a1 : AT_X5) (a2 : AT_X6) (hK : va_K G.1 vwCl [(G.2.1, .int)] s) (A : Nat → Prop) (hAe : A = fun q : Nat => s.heap.size ≤ q) (hE : EN G A s s.heap) (fu : Nat) (blk952 : ∀ (S1 : ST_X5) (S2 : ST_X6) (v3 : Int32), f_L_law_b952 L xs (f_L_law_b18 L xs fu) S1 S2 v3 = some 1 → ∀ (H : Heap) (locs : List Loc), va_P G.1 vwCl (ce_X5 G.2.1 a1 S1 ++ ce_X6 G.2.1 a2 S2) H → va_D A (ce_X5 G.2.1 a1 S1 ++ ce_X6 G.2.1 a2 S2) → va_S A s.heap H locs → ∀ (ls : Array Slot), lv_has ls 4 [(0, .ref b), (1, .ref a1.1), (2, .ref a2.1), (3, .int v3)] → W p l e room_1 s m #[Value.ref b] below meth c H locs 600000 7302250 (lw_Z below #[Value.ref b] s) (F0 m 952 ls [])) (S1 : ST_X5) (S2 : ST_X6) (v3 : Int32) (hf : ((f_X5_more S1).bind fun r141 => (f_X6_more S2).bind fun r142 => if r141 = r142 then (f_L_law_b952 L xs (f_L_law_b18 L xs fu) S1 S2 v3) else some 0) = some 1) : ∀ (H : Heap) (locs : List Loc), va_P G.1 vwCl (ce_X5 G.2.1 a1 S1 ++ ce_X6 G.2.1 a2 S2) H → va_D A (ce_X5 G.2.1 a1 S1 ++ ce_X6 G.2.1 a2 S2) → va_S A s.heap H locs → ∀ (ls : Array Slot), lv_has ls 4 [(0, .ref b), (1, .ref a1.1), (2, .ref a2.1), (3, .int v3)] → W p l e room_1 s m #[Value.ref b] below meth c H locs 600000 7302250 (lw_Z below #[Value.ref b] s) (F0 m 811 ls []) := by
  obtain ⟨hx, hb, hr, hml, hown, htsT, hX, hbl, hlocks, hgv⟩ := id C0
  have hown : s.vm.findClass RL = some m.cls := hown
  have hb : c.code = cL_law := hb
  have hts : ∀ w ∈ wsL_law, w.before #[Value.ref b] s = true := fun w h => htsT w (wsL_law_in w h)
  have hA : ∀ q : Nat, s.heap.size ≤ q → A q := fun q h => by rw [hAe]; exact h
  have hbA : ¬ A b := by rw [hAe]; exact Nat.not_le.mpr hbl
  intro H locs hP hD hS ls hl
  refine lv_aload_n hx hb dL_law_811 rfl (lv_at hl 1 rfl) ?_
  obtain ⟨r141, hr141, hf⟩ := ob_bind hf
  have hPc : va_P G.1 vwCl (ce_X5 G.2.1 a1 S1) H := zp_left hP
  have hDc : va_D A (ce_X5 G.2.1 a1 S1) := zd_left hD
  have hFc := zf_of hDc hS hA
  refine zc_roL (va_runV (As := []) (rest := []) ⟨hx, hb, hml, hown, hts⟩ (c_X5_more l G a1 H.size S1 _ hr141) (cwV 0 hts gL_law_X5_more rfl rfl rfl (by decide +kernel) ⟨Nat.le_of_ble_eq_true rfl, Nat.le_of_ble_eq_true rfl⟩) ⟨PcM.blind, va_recv hK hPc (ci := 5) (q0 := 0) rfl rfl, PcM.ok hPc hDc hK hE hS hFc⟩ rfl rfl hl.1 rfl (lv_room (Nat.le_of_ble_eq_true rfl)) dL_law_812 ⟨Nat.le_refl _, Nat.le_refl _⟩) hP hD hS hA (fun H locs hP hD hS => ?_)
  refine lv_aload_n hx hb dL_law_815 rfl (lv_at hl 2 rfl) ?_
  obtain ⟨r142, hr142, hf⟩ := ob_bind hf
  have hPc : va_P G.1 vwCl (ce_X6 G.2.1 a2 S2) H := zp_right hP
  have hDc : va_D A (ce_X6 G.2.1 a2 S2) := zd_right hD
  have hFc := zf_of hDc hS hA
  refine zc_roR (va_runV (As := []) (rest := [.int r141]) ⟨hx, hb, hml, hown, hts⟩ (c_X6_more l G a2 H.size S2 _ hr142) (cwV 0 hts gL_law_X6_more rfl rfl rfl (by decide +kernel) ⟨Nat.le_of_ble_eq_true rfl, Nat.le_of_ble_eq_true rfl⟩) ⟨PcM.blind, va_recv hK hPc (ci := 6) (q0 := 0) rfl rfl, PcM.ok hPc hDc hK hE hS hFc⟩ rfl rfl hl.1 rfl (lv_room (Nat.le_of_ble_eq_true rfl)) dL_law_816 ⟨Nat.le_refl _, Nat.le_refl _⟩) hP hD hS hA (fun H locs hP hD hS => ?_)
  refine lv_icmp_eq (tgt := 952) hx hb dL_law_819 (by decide) (fun c143 => ?_) (fun c143 => ?_)
  · replace hf := ob_pos c143 hf
    exact blk952 _ _ _ hf _ _ hP hD hS _ (lv_sub hl [0, 1, 2, 3] rfl)
  · replace hf := ob_neg c143 hf
    refine lv_iconst (v := 0) hx hb dL_law_822 (by decide) ?_
    exact absurd hf (by decide)
set_option maxHeartbeats 4000000 in
set_option maxRecDepth 100000 in
theorem law_case_26 {p : Program} {l : Launch} {e : Env} {s : State} {m : MethodId} {below : List Frame} {meth : Method} {c : Code} {b L : Nat} {xs : Nat → Int32} (C0 : lw_At p s m meth c b L xs) (G : zG) (a1 : AT_X5) (a2 : AT_X6) (hK : va_K G.1 vwCl [(G.2.1, .int)] s) (A : Nat → Prop) (hAe : A = fun q : Nat => s.heap.size ≤ q) (hE : EN G A s s.heap) (fu : Nat) (blk952 : ∀ (S1 : ST_X5) (S2 : ST_X6) (v3 : Int32), f_L_law_b952 L xs (f_L_law_b18 L xs fu) S1 S2 v3 = some 1 → ∀ (H : Heap) (locs : List Loc), va_P G.1 vwCl (ce_X5 G.2.1 a1 S1 ++ ce_X6 G.2.1 a2 S2) H → va_D A (ce_X5 G.2.1 a1 S1 ++ ce_X6 G.2.1 a2 S2) → va_S A s.heap H locs → ∀ (ls : Array Slot), lv_has ls 4 [(0, .ref b), (1, .ref a1.1), (2, .ref a2.1), (3, .int v3)] → W p l e room_1 s m #[Value.ref b] below meth c H locs 600000 7302250 (lw_Z below #[Value.ref b] s) (F0 m 952 ls [])) (S1 : ST_X5) (S2 : ST_X6) (v3 : Int32) (hf : (if inB (v3 + 1) L then (if inB (v3 + 2) L then ((f_X5_seeds S1 (xs (v3 + 1).toNatClampNeg) (xs (v3 + 2).toNatClampNeg)).bind fun r146 => if inB (v3 + 1) L then (if inB (v3 + 2) L then ((f_X6_seeds S2 (xs (v3 + 1).toNatClampNeg) (xs (v3 + 2).toNatClampNeg)).bind fun r149 => if r146.1 = r149.1 then (f_L_law_b952 L xs (f_L_law_b18 L xs fu) r146.2 r149.2 v3) else some 0) else none) else none) else none) else none) = some 1) : ∀ (H : Heap) (locs : List Loc), va_P G.1 vwCl (ce_X5 G.2.1 a1 S1 ++ ce_X6 G.2.1 a2 S2) H → va_D A (ce_X5 G.2.1 a1 S1 ++ ce_X6 G.2.1 a2 S2) → va_S A s.heap H locs → ∀ (ls : Array Slot), lv_has ls 4 [(0, .ref b), (1, .ref a1.1), (2, .ref a2.1), (3, .int v3)] → W p l e room_1 s m #[Value.ref b] below meth c H locs 600000 7302250 (lw_Z below #[Value.ref b] s) (F0 m 824 ls []) := by
  obtain ⟨hx, hb, hr, hml, hown, htsT, hX, hbl, hlocks, hgv⟩ := id C0
  have hown : s.vm.findClass RL = some m.cls := hown
  have hb : c.code = cL_law := hb
  have hts : ∀ w ∈ wsL_law, w.before #[Value.ref b] s = true := fun w h => htsT w (wsL_law_in w h)
  have hA : ∀ q : Nat, s.heap.size ≤ q → A q := fun q h => by rw [hAe]; exact h
  have hbA : ¬ A b := by rw [hAe]; exact Nat.not_le.mpr hbl
  intro H locs hP hD hS ls hl
  refine lv_aload_n hx hb dL_law_824 rfl (lv_at hl 1 rfl) ?_
  refine lv_aload_n hx hb dL_law_825 rfl (lv_at hl 0 rfl) ?_
  refine lv_iload_n hx hb dL_law_826 rfl (lv_at hl 3 rfl) ?_
  refine lv_iconst (v := 1) hx hb dL_law_827 (by decide) ?_
  refine lv_iadd hx hb dL_law_828 ?_
  obtain ⟨hg144, hf⟩ := ob_guard hf
  refine va_sld hx hb hX hbl hbA hS hg144 dL_law_829 ?_
  refine lv_aload_n hx hb dL_law_830 rfl (lv_at hl 0 rfl) ?_
  refine lv_iload_n hx hb dL_law_831 rfl (lv_at hl 3 rfl) ?_
  refine lv_iconst (v := 2) hx hb dL_law_832 (by decide) ?_
  refine lv_iadd hx hb dL_law_833 ?_
  obtain ⟨hg145, hf⟩ := ob_guard hf
  refine va_sld hx hb hX hbl hbA hS hg145 dL_law_834 ?_
  obtain ⟨r146, hr146, hf⟩ := ob_bind hf
  have hPc : va_P G.1 vwCl (ce_X5 G.2.1 a1 S1) H := zp_left hP
  have hDc : va_D A (ce_X5 G.2.1 a1 S1) := zd_left hD
  have hFc := zf_of hDc hS hA
  refine zc_wrL (cf := (fun u => ce_X5 G.2.1 a1 u)) (va_runV (As := [.int (xs (v3 + 1).toNatClampNeg), .int (xs (v3 + 2).toNatClampNeg)]) (rest := []) ⟨hx, hb, hml, hown, hts⟩ (c_X5_seeds l G a1 H.size S1 (xs (v3 + 1).toNatClampNeg) (xs (v3 + 2).toNatClampNeg) _ hr146) (cwV 2 hts gL_law_X5_seeds rfl rfl rfl (by decide +kernel) ⟨Nat.le_of_ble_eq_true rfl, Nat.le_of_ble_eq_true rfl⟩) ⟨PcM.blind, va_recv hK hPc (ci := 5) (q0 := 0) rfl rfl, PcM.ok hPc hDc hK hE hS hFc⟩ rfl rfl hl.1 rfl (lv_room (Nat.le_of_ble_eq_true rfl)) dL_law_835 ⟨Nat.le_refl _, Nat.le_refl _⟩) hP hD hS hA (fun H locs hP hD hS => ?_)
  refine lv_aload_n hx hb dL_law_838 rfl (lv_at hl 2 rfl) ?_
  refine lv_aload_n hx hb dL_law_839 rfl (lv_at hl 0 rfl) ?_
  refine lv_iload_n hx hb dL_law_840 rfl (lv_at hl 3 rfl) ?_
  refine lv_iconst (v := 1) hx hb dL_law_841 (by decide) ?_
  refine lv_iadd hx hb dL_law_842 ?_
  obtain ⟨hg147, hf⟩ := ob_guard hf
  refine va_sld hx hb hX hbl hbA hS hg147 dL_law_843 ?_
  refine lv_aload_n hx hb dL_law_844 rfl (lv_at hl 0 rfl) ?_
  refine lv_iload_n hx hb dL_law_845 rfl (lv_at hl 3 rfl) ?_
  refine lv_iconst (v := 2) hx hb dL_law_846 (by decide) ?_
  refine lv_iadd hx hb dL_law_847 ?_
  obtain ⟨hg148, hf⟩ := ob_guard hf
  refine va_sld hx hb hX hbl hbA hS hg148 dL_law_848 ?_
  obtain ⟨r149, hr149, hf⟩ := ob_bind hf
  have hPc : va_P G.1 vwCl (ce_X6 G.2.1 a2 S2) H := zp_right hP
  have hDc : va_D A (ce_X6 G.2.1 a2 S2) := zd_right hD
  have hFc := zf_of hDc hS hA
  refine zc_wrR (cf := (fun u => ce_X6 G.2.1 a2 u)) (va_runV (As := [.int (xs (v3 + 1).toNatClampNeg), .int (xs (v3 + 2).toNatClampNeg)]) (rest := [.int r146.1]) ⟨hx, hb, hml, hown, hts⟩ (c_X6_seeds l G a2 H.size S2 (xs (v3 + 1).toNatClampNeg) (xs (v3 + 2).toNatClampNeg) _ hr149) (cwV 2 hts gL_law_X6_seeds rfl rfl rfl (by decide +kernel) ⟨Nat.le_of_ble_eq_true rfl, Nat.le_of_ble_eq_true rfl⟩) ⟨PcM.blind, va_recv hK hPc (ci := 6) (q0 := 0) rfl rfl, PcM.ok hPc hDc hK hE hS hFc⟩ rfl rfl hl.1 rfl (lv_room (Nat.le_of_ble_eq_true rfl)) dL_law_849 ⟨Nat.le_refl _, Nat.le_refl _⟩) hP hD hS hA (fun H locs hP hD hS => ?_)
  refine lv_icmp_eq (tgt := 952) hx hb dL_law_852 (by decide) (fun c150 => ?_) (fun c150 => ?_)
  · replace hf := ob_pos c150 hf
    exact blk952 _ _ _ hf _ _ hP hD hS _ (lv_sub hl [0, 1, 2, 3] rfl)
  · replace hf := ob_neg c150 hf
    refine lv_iconst (v := 0) hx hb dL_law_855 (by decide) ?_
    exact absurd hf (by decide)
set_option maxHeartbeats 4000000 in
set_option maxRecDepth 100000 in
theorem law_case_27 {p : Program} {l : Launch} {e : Env} {s : State} {m : MethodId} {below : List Frame} {meth : Method} {c : Code} {b L : Nat} {xs : Nat → Int32} (C0 : lw_At p s m meth c b L xs) (G : zG) (a1 : AT_X5) (a2 : AT_X6) (hK : va_K G.1 vwCl [(G.2.1, .int)] s) (A : Nat → Prop) (hAe : A = fun q : Nat => s.heap.size ≤ q) (hE : EN G A s s.heap) (fu : Nat) (blk952 : ∀ (S1 : ST_X5) (S2 : ST_X6) (v3 : Int32), f_L_law_b952 L xs (f_L_law_b18 L xs fu) S1 S2 v3 = some 1 → ∀ (H : Heap) (locs : List Loc), va_P G.1 vwCl (ce_X5 G.2.1 a1 S1 ++ ce_X6 G.2.1 a2 S2) H → va_D A (ce_X5 G.2.1 a1 S1 ++ ce_X6 G.2.1 a2 S2) → va_S A s.heap H locs → ∀ (ls : Array Slot), lv_has ls 4 [(0, .ref b), (1, .ref a1.1), (2, .ref a2.1), (3, .int v3)] → W p l e room_1 s m #[Value.ref b] below meth c H locs 600000 7302250 (lw_Z below #[Value.ref b] s) (F0 m 952 ls [])) (S1 : ST_X5) (S2 : ST_X6) (v3 : Int32) (hf : (if inB (v3 + 1) L then ((f_X5_row S1 (xs (v3 + 1).toNatClampNeg)).bind fun r152 => if inB (v3 + 1) L then ((f_X6_row S2 (xs (v3 + 1).toNatClampNeg)).bind fun r154 => if r152.1 = r154.1 then (f_L_law_b952 L xs (f_L_law_b18 L xs fu) r152.2 r154.2 v3) else some 0) else none) else none) = some 1) : ∀ (H : Heap) (locs : List Loc), va_P G.1 vwCl (ce_X5 G.2.1 a1 S1 ++ ce_X6 G.2.1 a2 S2) H → va_D A (ce_X5 G.2.1 a1 S1 ++ ce_X6 G.2.1 a2 S2) → va_S A s.heap H locs → ∀ (ls : Array Slot), lv_has ls 4 [(0, .ref b), (1, .ref a1.1), (2, .ref a2.1), (3, .int v3)] → W p l e room_1 s m #[Value.ref b] below meth c H locs 600000 7302250 (lw_Z below #[Value.ref b] s) (F0 m 857 ls []) := by
  obtain ⟨hx, hb, hr, hml, hown, htsT, hX, hbl, hlocks, hgv⟩ := id C0
  have hown : s.vm.findClass RL = some m.cls := hown
  have hb : c.code = cL_law := hb
  have hts : ∀ w ∈ wsL_law, w.before #[Value.ref b] s = true := fun w h => htsT w (wsL_law_in w h)
  have hA : ∀ q : Nat, s.heap.size ≤ q → A q := fun q h => by rw [hAe]; exact h
  have hbA : ¬ A b := by rw [hAe]; exact Nat.not_le.mpr hbl
  intro H locs hP hD hS ls hl
  refine lv_aload_n hx hb dL_law_857 rfl (lv_at hl 1 rfl) ?_
  refine lv_aload_n hx hb dL_law_858 rfl (lv_at hl 0 rfl) ?_
  refine lv_iload_n hx hb dL_law_859 rfl (lv_at hl 3 rfl) ?_
  refine lv_iconst (v := 1) hx hb dL_law_860 (by decide) ?_
  refine lv_iadd hx hb dL_law_861 ?_
  obtain ⟨hg151, hf⟩ := ob_guard hf
  refine va_sld hx hb hX hbl hbA hS hg151 dL_law_862 ?_
  obtain ⟨r152, hr152, hf⟩ := ob_bind hf
  have hPc : va_P G.1 vwCl (ce_X5 G.2.1 a1 S1) H := zp_left hP
  have hDc : va_D A (ce_X5 G.2.1 a1 S1) := zd_left hD
  have hFc := zf_of hDc hS hA
  refine zc_wrL (cf := (fun u => ce_X5 G.2.1 a1 u)) (va_runV (As := [.int (xs (v3 + 1).toNatClampNeg)]) (rest := []) ⟨hx, hb, hml, hown, hts⟩ (c_X5_row l G a1 H.size S1 (xs (v3 + 1).toNatClampNeg) _ hr152) (cwV 1 hts gL_law_X5_row rfl rfl rfl (by decide +kernel) ⟨Nat.le_of_ble_eq_true rfl, Nat.le_of_ble_eq_true rfl⟩) ⟨PcM.blind, va_recv hK hPc (ci := 5) (q0 := 0) rfl rfl, PcM.ok hPc hDc hK hE hS hFc⟩ rfl rfl hl.1 rfl (lv_room (Nat.le_of_ble_eq_true rfl)) dL_law_863 ⟨Nat.le_refl _, Nat.le_refl _⟩) hP hD hS hA (fun H locs hP hD hS => ?_)
  refine lv_aload_n hx hb dL_law_866 rfl (lv_at hl 2 rfl) ?_
  refine lv_aload_n hx hb dL_law_867 rfl (lv_at hl 0 rfl) ?_
  refine lv_iload_n hx hb dL_law_868 rfl (lv_at hl 3 rfl) ?_
  refine lv_iconst (v := 1) hx hb dL_law_869 (by decide) ?_
  refine lv_iadd hx hb dL_law_870 ?_
  obtain ⟨hg153, hf⟩ := ob_guard hf
  refine va_sld hx hb hX hbl hbA hS hg153 dL_law_871 ?_
  obtain ⟨r154, hr154, hf⟩ := ob_bind hf
  have hPc : va_P G.1 vwCl (ce_X6 G.2.1 a2 S2) H := zp_right hP
  have hDc : va_D A (ce_X6 G.2.1 a2 S2) := zd_right hD
  have hFc := zf_of hDc hS hA
  refine zc_wrR (cf := (fun u => ce_X6 G.2.1 a2 u)) (va_runV (As := [.int (xs (v3 + 1).toNatClampNeg)]) (rest := [.int r152.1]) ⟨hx, hb, hml, hown, hts⟩ (c_X6_row l G a2 H.size S2 (xs (v3 + 1).toNatClampNeg) _ hr154) (cwV 1 hts gL_law_X6_row rfl rfl rfl (by decide +kernel) ⟨Nat.le_of_ble_eq_true rfl, Nat.le_of_ble_eq_true rfl⟩) ⟨PcM.blind, va_recv hK hPc (ci := 6) (q0 := 0) rfl rfl, PcM.ok hPc hDc hK hE hS hFc⟩ rfl rfl hl.1 rfl (lv_room (Nat.le_of_ble_eq_true rfl)) dL_law_872 ⟨Nat.le_refl _, Nat.le_refl _⟩) hP hD hS hA (fun H locs hP hD hS => ?_)
  refine lv_icmp_eq (tgt := 952) hx hb dL_law_875 (by decide) (fun c155 => ?_) (fun c155 => ?_)
  · replace hf := ob_pos c155 hf
    exact blk952 _ _ _ hf _ _ hP hD hS _ (lv_sub hl [0, 1, 2, 3] rfl)
  · replace hf := ob_neg c155 hf
    refine lv_iconst (v := 0) hx hb dL_law_878 (by decide) ?_
    exact absurd hf (by decide)
set_option maxHeartbeats 4000000 in
set_option maxRecDepth 100000 in
theorem law_case_28 {p : Program} {l : Launch} {e : Env} {s : State} {m : MethodId} {below : List Frame} {meth : Method} {c : Code} {b L : Nat} {xs : Nat → Int32} (C0 : lw_At p s m meth c b L xs) (G : zG) (a1 : AT_X5) (a2 : AT_X6) (hK : va_K G.1 vwCl [(G.2.1, .int)] s) (A : Nat → Prop) (hAe : A = fun q : Nat => s.heap.size ≤ q) (hE : EN G A s s.heap) (fu : Nat) (blk952 : ∀ (S1 : ST_X5) (S2 : ST_X6) (v3 : Int32), f_L_law_b952 L xs (f_L_law_b18 L xs fu) S1 S2 v3 = some 1 → ∀ (H : Heap) (locs : List Loc), va_P G.1 vwCl (ce_X5 G.2.1 a1 S1 ++ ce_X6 G.2.1 a2 S2) H → va_D A (ce_X5 G.2.1 a1 S1 ++ ce_X6 G.2.1 a2 S2) → va_S A s.heap H locs → ∀ (ls : Array Slot), lv_has ls 4 [(0, .ref b), (1, .ref a1.1), (2, .ref a2.1), (3, .int v3)] → W p l e room_1 s m #[Value.ref b] below meth c H locs 600000 7302250 (lw_Z below #[Value.ref b] s) (F0 m 952 ls [])) (S1 : ST_X5) (S2 : ST_X6) (v3 : Int32) (hf : (if inB (v3 + 1) L then ((f_X5_judge S1 (xs (v3 + 1).toNatClampNeg)).bind fun r157 => if inB (v3 + 1) L then ((f_X6_judge S2 (xs (v3 + 1).toNatClampNeg)).bind fun r159 => if r157.1 = r159.1 then (f_L_law_b952 L xs (f_L_law_b18 L xs fu) r157.2 r159.2 v3) else some 0) else none) else none) = some 1) : ∀ (H : Heap) (locs : List Loc), va_P G.1 vwCl (ce_X5 G.2.1 a1 S1 ++ ce_X6 G.2.1 a2 S2) H → va_D A (ce_X5 G.2.1 a1 S1 ++ ce_X6 G.2.1 a2 S2) → va_S A s.heap H locs → ∀ (ls : Array Slot), lv_has ls 4 [(0, .ref b), (1, .ref a1.1), (2, .ref a2.1), (3, .int v3)] → W p l e room_1 s m #[Value.ref b] below meth c H locs 600000 7302250 (lw_Z below #[Value.ref b] s) (F0 m 880 ls []) := by
  obtain ⟨hx, hb, hr, hml, hown, htsT, hX, hbl, hlocks, hgv⟩ := id C0
  have hown : s.vm.findClass RL = some m.cls := hown
  have hb : c.code = cL_law := hb
  have hts : ∀ w ∈ wsL_law, w.before #[Value.ref b] s = true := fun w h => htsT w (wsL_law_in w h)
  have hA : ∀ q : Nat, s.heap.size ≤ q → A q := fun q h => by rw [hAe]; exact h
  have hbA : ¬ A b := by rw [hAe]; exact Nat.not_le.mpr hbl
  intro H locs hP hD hS ls hl
  refine lv_aload_n hx hb dL_law_880 rfl (lv_at hl 1 rfl) ?_
  refine lv_aload_n hx hb dL_law_881 rfl (lv_at hl 0 rfl) ?_
  refine lv_iload_n hx hb dL_law_882 rfl (lv_at hl 3 rfl) ?_
  refine lv_iconst (v := 1) hx hb dL_law_883 (by decide) ?_
  refine lv_iadd hx hb dL_law_884 ?_
  obtain ⟨hg156, hf⟩ := ob_guard hf
  refine va_sld hx hb hX hbl hbA hS hg156 dL_law_885 ?_
  obtain ⟨r157, hr157, hf⟩ := ob_bind hf
  have hPc : va_P G.1 vwCl (ce_X5 G.2.1 a1 S1) H := zp_left hP
  have hDc : va_D A (ce_X5 G.2.1 a1 S1) := zd_left hD
  have hFc := zf_of hDc hS hA
  refine zc_wrL (cf := (fun u => ce_X5 G.2.1 a1 u)) (va_runV (As := [.int (xs (v3 + 1).toNatClampNeg)]) (rest := []) ⟨hx, hb, hml, hown, hts⟩ (c_X5_judge l G a1 H.size S1 (xs (v3 + 1).toNatClampNeg) _ hr157) (cwV 1 hts gL_law_X5_judge rfl rfl rfl (by decide +kernel) ⟨Nat.le_of_ble_eq_true rfl, Nat.le_of_ble_eq_true rfl⟩) ⟨PcM.blind, va_recv hK hPc (ci := 5) (q0 := 0) rfl rfl, PcM.ok hPc hDc hK hE hS hFc⟩ rfl rfl hl.1 rfl (lv_room (Nat.le_of_ble_eq_true rfl)) dL_law_886 ⟨Nat.le_refl _, Nat.le_refl _⟩) hP hD hS hA (fun H locs hP hD hS => ?_)
  refine lv_aload_n hx hb dL_law_889 rfl (lv_at hl 2 rfl) ?_
  refine lv_aload_n hx hb dL_law_890 rfl (lv_at hl 0 rfl) ?_
  refine lv_iload_n hx hb dL_law_891 rfl (lv_at hl 3 rfl) ?_
  refine lv_iconst (v := 1) hx hb dL_law_892 (by decide) ?_
  refine lv_iadd hx hb dL_law_893 ?_
  obtain ⟨hg158, hf⟩ := ob_guard hf
  refine va_sld hx hb hX hbl hbA hS hg158 dL_law_894 ?_
  obtain ⟨r159, hr159, hf⟩ := ob_bind hf
  have hPc : va_P G.1 vwCl (ce_X6 G.2.1 a2 S2) H := zp_right hP
  have hDc : va_D A (ce_X6 G.2.1 a2 S2) := zd_right hD
  have hFc := zf_of hDc hS hA
  refine zc_wrR (cf := (fun u => ce_X6 G.2.1 a2 u)) (va_runV (As := [.int (xs (v3 + 1).toNatClampNeg)]) (rest := [.int r157.1]) ⟨hx, hb, hml, hown, hts⟩ (c_X6_judge l G a2 H.size S2 (xs (v3 + 1).toNatClampNeg) _ hr159) (cwV 1 hts gL_law_X6_judge rfl rfl rfl (by decide +kernel) ⟨Nat.le_of_ble_eq_true rfl, Nat.le_of_ble_eq_true rfl⟩) ⟨PcM.blind, va_recv hK hPc (ci := 6) (q0 := 0) rfl rfl, PcM.ok hPc hDc hK hE hS hFc⟩ rfl rfl hl.1 rfl (lv_room (Nat.le_of_ble_eq_true rfl)) dL_law_895 ⟨Nat.le_refl _, Nat.le_refl _⟩) hP hD hS hA (fun H locs hP hD hS => ?_)
  refine lv_icmp_eq (tgt := 952) hx hb dL_law_898 (by decide) (fun c160 => ?_) (fun c160 => ?_)
  · replace hf := ob_pos c160 hf
    exact blk952 _ _ _ hf _ _ hP hD hS _ (lv_sub hl [0, 1, 2, 3] rfl)
  · replace hf := ob_neg c160 hf
    refine lv_iconst (v := 0) hx hb dL_law_901 (by decide) ?_
    exact absurd hf (by decide)
set_option maxHeartbeats 4000000 in
set_option maxRecDepth 100000 in
theorem law_case_29 {p : Program} {l : Launch} {e : Env} {s : State} {m : MethodId} {below : List Frame} {meth : Method} {c : Code} {b L : Nat} {xs : Nat → Int32} (C0 : lw_At p s m meth c b L xs) (G : zG) (a1 : AT_X5) (a2 : AT_X6) (hK : va_K G.1 vwCl [(G.2.1, .int)] s) (A : Nat → Prop) (hAe : A = fun q : Nat => s.heap.size ≤ q) (hE : EN G A s s.heap) (fu : Nat) (blk952 : ∀ (S1 : ST_X5) (S2 : ST_X6) (v3 : Int32), f_L_law_b952 L xs (f_L_law_b18 L xs fu) S1 S2 v3 = some 1 → ∀ (H : Heap) (locs : List Loc), va_P G.1 vwCl (ce_X5 G.2.1 a1 S1 ++ ce_X6 G.2.1 a2 S2) H → va_D A (ce_X5 G.2.1 a1 S1 ++ ce_X6 G.2.1 a2 S2) → va_S A s.heap H locs → ∀ (ls : Array Slot), lv_has ls 4 [(0, .ref b), (1, .ref a1.1), (2, .ref a2.1), (3, .int v3)] → W p l e room_1 s m #[Value.ref b] below meth c H locs 600000 7302250 (lw_Z below #[Value.ref b] s) (F0 m 952 ls [])) (S1 : ST_X5) (S2 : ST_X6) (v3 : Int32) (hf : ((f_X5_image S1).bind fun r161 => (f_X6_image S2).bind fun r162 => if r161.1 = r162.1 then (f_L_law_b952 L xs (f_L_law_b18 L xs fu) r161.2 r162.2 v3) else some 0) = some 1) : ∀ (H : Heap) (locs : List Loc), va_P G.1 vwCl (ce_X5 G.2.1 a1 S1 ++ ce_X6 G.2.1 a2 S2) H → va_D A (ce_X5 G.2.1 a1 S1 ++ ce_X6 G.2.1 a2 S2) → va_S A s.heap H locs → ∀ (ls : Array Slot), lv_has ls 4 [(0, .ref b), (1, .ref a1.1), (2, .ref a2.1), (3, .int v3)] → W p l e room_1 s m #[Value.ref b] below meth c H locs 600000 7302250 (lw_Z below #[Value.ref b] s) (F0 m 903 ls []) := by
  obtain ⟨hx, hb, hr, hml, hown, htsT, hX, hbl, hlocks, hgv⟩ := id C0
  have hown : s.vm.findClass RL = some m.cls := hown
  have hb : c.code = cL_law := hb
  have hts : ∀ w ∈ wsL_law, w.before #[Value.ref b] s = true := fun w h => htsT w (wsL_law_in w h)
  have hA : ∀ q : Nat, s.heap.size ≤ q → A q := fun q h => by rw [hAe]; exact h
  have hbA : ¬ A b := by rw [hAe]; exact Nat.not_le.mpr hbl
  intro H locs hP hD hS ls hl
  refine lv_aload_n hx hb dL_law_903 rfl (lv_at hl 1 rfl) ?_
  obtain ⟨r161, hr161, hf⟩ := ob_bind hf
  have hPc : va_P G.1 vwCl (ce_X5 G.2.1 a1 S1) H := zp_left hP
  have hDc : va_D A (ce_X5 G.2.1 a1 S1) := zd_left hD
  have hFc := zf_of hDc hS hA
  refine zc_wrL (cf := (fun u => ce_X5 G.2.1 a1 u)) (va_runV (As := []) (rest := []) ⟨hx, hb, hml, hown, hts⟩ (c_X5_image l G a1 H.size S1 _ hr161) (cwV 0 hts gL_law_X5_image rfl rfl rfl (by decide +kernel) ⟨Nat.le_of_ble_eq_true rfl, Nat.le_of_ble_eq_true rfl⟩) ⟨PcM.blind, va_recv hK hPc (ci := 5) (q0 := 0) rfl rfl, PcM.ok hPc hDc hK hE hS hFc⟩ rfl rfl hl.1 rfl (lv_room (Nat.le_of_ble_eq_true rfl)) dL_law_904 ⟨Nat.le_refl _, Nat.le_refl _⟩) hP hD hS hA (fun H locs hP hD hS => ?_)
  refine lv_aload_n hx hb dL_law_907 rfl (lv_at hl 2 rfl) ?_
  obtain ⟨r162, hr162, hf⟩ := ob_bind hf
  have hPc : va_P G.1 vwCl (ce_X6 G.2.1 a2 S2) H := zp_right hP
  have hDc : va_D A (ce_X6 G.2.1 a2 S2) := zd_right hD
  have hFc := zf_of hDc hS hA
  refine zc_wrR (cf := (fun u => ce_X6 G.2.1 a2 u)) (va_runV (As := []) (rest := [.int r161.1]) ⟨hx, hb, hml, hown, hts⟩ (c_X6_image l G a2 H.size S2 _ hr162) (cwV 0 hts gL_law_X6_image rfl rfl rfl (by decide +kernel) ⟨Nat.le_of_ble_eq_true rfl, Nat.le_of_ble_eq_true rfl⟩) ⟨PcM.blind, va_recv hK hPc (ci := 6) (q0 := 0) rfl rfl, PcM.ok hPc hDc hK hE hS hFc⟩ rfl rfl hl.1 rfl (lv_room (Nat.le_of_ble_eq_true rfl)) dL_law_908 ⟨Nat.le_refl _, Nat.le_refl _⟩) hP hD hS hA (fun H locs hP hD hS => ?_)
  refine lv_icmp_eq (tgt := 952) hx hb dL_law_911 (by decide) (fun c163 => ?_) (fun c163 => ?_)
  · replace hf := ob_pos c163 hf
    exact blk952 _ _ _ hf _ _ hP hD hS _ (lv_sub hl [0, 1, 2, 3] rfl)
  · replace hf := ob_neg c163 hf
    refine lv_iconst (v := 0) hx hb dL_law_914 (by decide) ?_
    exact absurd hf (by decide)
set_option maxHeartbeats 4000000 in
set_option maxRecDepth 100000 in
theorem law_case_30 {p : Program} {l : Launch} {e : Env} {s : State} {m : MethodId} {below : List Frame} {meth : Method} {c : Code} {b L : Nat} {xs : Nat → Int32} (C0 : lw_At p s m meth c b L xs) (G : zG) (a1 : AT_X5) (a2 : AT_X6) (hK : va_K G.1 vwCl [(G.2.1, .int)] s) (A : Nat → Prop) (hAe : A = fun q : Nat => s.heap.size ≤ q) (hE : EN G A s s.heap) (fu : Nat) (blk952 : ∀ (S1 : ST_X5) (S2 : ST_X6) (v3 : Int32), f_L_law_b952 L xs (f_L_law_b18 L xs fu) S1 S2 v3 = some 1 → ∀ (H : Heap) (locs : List Loc), va_P G.1 vwCl (ce_X5 G.2.1 a1 S1 ++ ce_X6 G.2.1 a2 S2) H → va_D A (ce_X5 G.2.1 a1 S1 ++ ce_X6 G.2.1 a2 S2) → va_S A s.heap H locs → ∀ (ls : Array Slot), lv_has ls 4 [(0, .ref b), (1, .ref a1.1), (2, .ref a2.1), (3, .int v3)] → W p l e room_1 s m #[Value.ref b] below meth c H locs 600000 7302250 (lw_Z below #[Value.ref b] s) (F0 m 952 ls [])) (S1 : ST_X5) (S2 : ST_X6) (v3 : Int32) (hf : ((f_X5_on S1).bind fun r164 => (f_X6_on S2).bind fun r165 => if r164.1 = r165.1 then (f_L_law_b952 L xs (f_L_law_b18 L xs fu) r164.2 r165.2 v3) else some 0) = some 1) : ∀ (H : Heap) (locs : List Loc), va_P G.1 vwCl (ce_X5 G.2.1 a1 S1 ++ ce_X6 G.2.1 a2 S2) H → va_D A (ce_X5 G.2.1 a1 S1 ++ ce_X6 G.2.1 a2 S2) → va_S A s.heap H locs → ∀ (ls : Array Slot), lv_has ls 4 [(0, .ref b), (1, .ref a1.1), (2, .ref a2.1), (3, .int v3)] → W p l e room_1 s m #[Value.ref b] below meth c H locs 600000 7302250 (lw_Z below #[Value.ref b] s) (F0 m 916 ls []) := by
  obtain ⟨hx, hb, hr, hml, hown, htsT, hX, hbl, hlocks, hgv⟩ := id C0
  have hown : s.vm.findClass RL = some m.cls := hown
  have hb : c.code = cL_law := hb
  have hts : ∀ w ∈ wsL_law, w.before #[Value.ref b] s = true := fun w h => htsT w (wsL_law_in w h)
  have hA : ∀ q : Nat, s.heap.size ≤ q → A q := fun q h => by rw [hAe]; exact h
  have hbA : ¬ A b := by rw [hAe]; exact Nat.not_le.mpr hbl
  intro H locs hP hD hS ls hl
  refine lv_aload_n hx hb dL_law_916 rfl (lv_at hl 1 rfl) ?_
  obtain ⟨r164, hr164, hf⟩ := ob_bind hf
  have hPc : va_P G.1 vwCl (ce_X5 G.2.1 a1 S1) H := zp_left hP
  have hDc : va_D A (ce_X5 G.2.1 a1 S1) := zd_left hD
  have hFc := zf_of hDc hS hA
  refine zc_wrL (cf := (fun u => ce_X5 G.2.1 a1 u)) (va_runV (As := []) (rest := []) ⟨hx, hb, hml, hown, hts⟩ (c_X5_on l G a1 H.size S1 _ hr164) (cwV 0 hts gL_law_X5_on rfl rfl rfl (by decide +kernel) ⟨Nat.le_of_ble_eq_true rfl, Nat.le_of_ble_eq_true rfl⟩) ⟨PcM.blind, va_recv hK hPc (ci := 5) (q0 := 0) rfl rfl, PcM.ok hPc hDc hK hE hS hFc⟩ rfl rfl hl.1 rfl (lv_room (Nat.le_of_ble_eq_true rfl)) dL_law_917 ⟨Nat.le_refl _, Nat.le_refl _⟩) hP hD hS hA (fun H locs hP hD hS => ?_)
  refine lv_aload_n hx hb dL_law_920 rfl (lv_at hl 2 rfl) ?_
  obtain ⟨r165, hr165, hf⟩ := ob_bind hf
  have hPc : va_P G.1 vwCl (ce_X6 G.2.1 a2 S2) H := zp_right hP
  have hDc : va_D A (ce_X6 G.2.1 a2 S2) := zd_right hD
  have hFc := zf_of hDc hS hA
  refine zc_wrR (cf := (fun u => ce_X6 G.2.1 a2 u)) (va_runV (As := []) (rest := [.int r164.1]) ⟨hx, hb, hml, hown, hts⟩ (c_X6_on l G a2 H.size S2 _ hr165) (cwV 0 hts gL_law_X6_on rfl rfl rfl (by decide +kernel) ⟨Nat.le_of_ble_eq_true rfl, Nat.le_of_ble_eq_true rfl⟩) ⟨PcM.blind, va_recv hK hPc (ci := 6) (q0 := 0) rfl rfl, PcM.ok hPc hDc hK hE hS hFc⟩ rfl rfl hl.1 rfl (lv_room (Nat.le_of_ble_eq_true rfl)) dL_law_921 ⟨Nat.le_refl _, Nat.le_refl _⟩) hP hD hS hA (fun H locs hP hD hS => ?_)
  refine lv_icmp_eq (tgt := 952) hx hb dL_law_924 (by decide) (fun c166 => ?_) (fun c166 => ?_)
  · replace hf := ob_pos c166 hf
    exact blk952 _ _ _ hf _ _ hP hD hS _ (lv_sub hl [0, 1, 2, 3] rfl)
  · replace hf := ob_neg c166 hf
    refine lv_iconst (v := 0) hx hb dL_law_927 (by decide) ?_
    exact absurd hf (by decide)
set_option maxHeartbeats 4000000 in
set_option maxRecDepth 100000 in
theorem law_case_31 {p : Program} {l : Launch} {e : Env} {s : State} {m : MethodId} {below : List Frame} {meth : Method} {c : Code} {b L : Nat} {xs : Nat → Int32} (C0 : lw_At p s m meth c b L xs) (G : zG) (a1 : AT_X5) (a2 : AT_X6) (hK : va_K G.1 vwCl [(G.2.1, .int)] s) (A : Nat → Prop) (hAe : A = fun q : Nat => s.heap.size ≤ q) (hE : EN G A s s.heap) (fu : Nat) (blk952 : ∀ (S1 : ST_X5) (S2 : ST_X6) (v3 : Int32), f_L_law_b952 L xs (f_L_law_b18 L xs fu) S1 S2 v3 = some 1 → ∀ (H : Heap) (locs : List Loc), va_P G.1 vwCl (ce_X5 G.2.1 a1 S1 ++ ce_X6 G.2.1 a2 S2) H → va_D A (ce_X5 G.2.1 a1 S1 ++ ce_X6 G.2.1 a2 S2) → va_S A s.heap H locs → ∀ (ls : Array Slot), lv_has ls 4 [(0, .ref b), (1, .ref a1.1), (2, .ref a2.1), (3, .int v3)] → W p l e room_1 s m #[Value.ref b] below meth c H locs 600000 7302250 (lw_Z below #[Value.ref b] s) (F0 m 952 ls [])) (S1 : ST_X5) (S2 : ST_X6) (v3 : Int32) (hf : (if inB (v3 + 1) L then ((f_X5_count S1 (xs (v3 + 1).toNatClampNeg)).bind fun r168 => if inB (v3 + 1) L then ((f_X6_count S2 (xs (v3 + 1).toNatClampNeg)).bind fun r170 => if r168 = r170 then (f_L_law_b952 L xs (f_L_law_b18 L xs fu) S1 S2 v3) else some 0) else none) else none) = some 1) : ∀ (H : Heap) (locs : List Loc), va_P G.1 vwCl (ce_X5 G.2.1 a1 S1 ++ ce_X6 G.2.1 a2 S2) H → va_D A (ce_X5 G.2.1 a1 S1 ++ ce_X6 G.2.1 a2 S2) → va_S A s.heap H locs → ∀ (ls : Array Slot), lv_has ls 4 [(0, .ref b), (1, .ref a1.1), (2, .ref a2.1), (3, .int v3)] → W p l e room_1 s m #[Value.ref b] below meth c H locs 600000 7302250 (lw_Z below #[Value.ref b] s) (F0 m 929 ls []) := by
  obtain ⟨hx, hb, hr, hml, hown, htsT, hX, hbl, hlocks, hgv⟩ := id C0
  have hown : s.vm.findClass RL = some m.cls := hown
  have hb : c.code = cL_law := hb
  have hts : ∀ w ∈ wsL_law, w.before #[Value.ref b] s = true := fun w h => htsT w (wsL_law_in w h)
  have hA : ∀ q : Nat, s.heap.size ≤ q → A q := fun q h => by rw [hAe]; exact h
  have hbA : ¬ A b := by rw [hAe]; exact Nat.not_le.mpr hbl
  intro H locs hP hD hS ls hl
  refine lv_aload_n hx hb dL_law_929 rfl (lv_at hl 1 rfl) ?_
  refine lv_aload_n hx hb dL_law_930 rfl (lv_at hl 0 rfl) ?_
  refine lv_iload_n hx hb dL_law_931 rfl (lv_at hl 3 rfl) ?_
  refine lv_iconst (v := 1) hx hb dL_law_932 (by decide) ?_
  refine lv_iadd hx hb dL_law_933 ?_
  obtain ⟨hg167, hf⟩ := ob_guard hf
  refine va_sld hx hb hX hbl hbA hS hg167 dL_law_934 ?_
  obtain ⟨r168, hr168, hf⟩ := ob_bind hf
  have hPc : va_P G.1 vwCl (ce_X5 G.2.1 a1 S1) H := zp_left hP
  have hDc : va_D A (ce_X5 G.2.1 a1 S1) := zd_left hD
  have hFc := zf_of hDc hS hA
  refine zc_roL (va_runV (As := [.int (xs (v3 + 1).toNatClampNeg)]) (rest := []) ⟨hx, hb, hml, hown, hts⟩ (c_X5_count l G a1 H.size S1 (xs (v3 + 1).toNatClampNeg) _ hr168) (cwV 1 hts gL_law_X5_count rfl rfl rfl (by decide +kernel) ⟨Nat.le_of_ble_eq_true rfl, Nat.le_of_ble_eq_true rfl⟩) ⟨PcM.blind, va_recv hK hPc (ci := 5) (q0 := 0) rfl rfl, PcM.ok hPc hDc hK hE hS hFc⟩ rfl rfl hl.1 rfl (lv_room (Nat.le_of_ble_eq_true rfl)) dL_law_935 ⟨Nat.le_refl _, Nat.le_refl _⟩) hP hD hS hA (fun H locs hP hD hS => ?_)
  refine lv_aload_n hx hb dL_law_938 rfl (lv_at hl 2 rfl) ?_
  refine lv_aload_n hx hb dL_law_939 rfl (lv_at hl 0 rfl) ?_
  refine lv_iload_n hx hb dL_law_940 rfl (lv_at hl 3 rfl) ?_
  refine lv_iconst (v := 1) hx hb dL_law_941 (by decide) ?_
  refine lv_iadd hx hb dL_law_942 ?_
  obtain ⟨hg169, hf⟩ := ob_guard hf
  refine va_sld hx hb hX hbl hbA hS hg169 dL_law_943 ?_
  obtain ⟨r170, hr170, hf⟩ := ob_bind hf
  have hPc : va_P G.1 vwCl (ce_X6 G.2.1 a2 S2) H := zp_right hP
  have hDc : va_D A (ce_X6 G.2.1 a2 S2) := zd_right hD
  have hFc := zf_of hDc hS hA
  refine zc_roR (va_runV (As := [.int (xs (v3 + 1).toNatClampNeg)]) (rest := [.int r168]) ⟨hx, hb, hml, hown, hts⟩ (c_X6_count l G a2 H.size S2 (xs (v3 + 1).toNatClampNeg) _ hr170) (cwV 1 hts gL_law_X6_count rfl rfl rfl (by decide +kernel) ⟨Nat.le_of_ble_eq_true rfl, Nat.le_of_ble_eq_true rfl⟩) ⟨PcM.blind, va_recv hK hPc (ci := 6) (q0 := 0) rfl rfl, PcM.ok hPc hDc hK hE hS hFc⟩ rfl rfl hl.1 rfl (lv_room (Nat.le_of_ble_eq_true rfl)) dL_law_944 ⟨Nat.le_refl _, Nat.le_refl _⟩) hP hD hS hA (fun H locs hP hD hS => ?_)
  refine lv_icmp_eq (tgt := 952) hx hb dL_law_947 (by decide) (fun c171 => ?_) (fun c171 => ?_)
  · replace hf := ob_pos c171 hf
    exact blk952 _ _ _ hf _ _ hP hD hS _ (lv_sub hl [0, 1, 2, 3] rfl)
  · replace hf := ob_neg c171 hf
    refine lv_iconst (v := 0) hx hb dL_law_950 (by decide) ?_
    exact absurd hf (by decide)
set_option maxHeartbeats 4000000 in
set_option maxRecDepth 100000 in
theorem law_loop {p : Program} {l : Launch} {e : Env} {s : State} {m : MethodId} {below : List Frame} {meth : Method} {c : Code} {b L : Nat} {xs : Nat → Int32} (C0 : lw_At p s m meth c b L xs) (G : zG) (a1 : AT_X5) (a2 : AT_X6) (hK : va_K G.1 vwCl [(G.2.1, .int)] s) (A : Nat → Prop) (hAe : A = fun q : Nat => s.heap.size ≤ q) (hE : EN G A s s.heap) : ∀ (fu : Nat), ∀ (S1 : ST_X5) (S2 : ST_X6) (v3 : Int32), f_L_law_b18 L xs fu S1 S2 v3 = some 1 → ∀ (H : Heap) (locs : List Loc), va_P G.1 vwCl (ce_X5 G.2.1 a1 S1 ++ ce_X6 G.2.1 a2 S2) H → va_D A (ce_X5 G.2.1 a1 S1 ++ ce_X6 G.2.1 a2 S2) → va_S A s.heap H locs → ∀ (ls : Array Slot), lv_has ls 4 [(0, .ref b), (1, .ref a1.1), (2, .ref a2.1), (3, .int v3)] → W p l e room_1 s m #[Value.ref b] below meth c H locs 600000 7302250 (lw_Z below #[Value.ref b] s) (F0 m 18 ls []) := by
  obtain ⟨hx, hb, hr, hml, hown, htsT, hX, hbl, hlocks, hgv⟩ := id C0
  have hown : s.vm.findClass RL = some m.cls := hown
  have hb : c.code = cL_law := hb
  have hts : ∀ w ∈ wsL_law, w.before #[Value.ref b] s = true := fun w h => htsT w (wsL_law_in w h)
  have hA : ∀ q : Nat, s.heap.size ≤ q → A q := fun q h => by rw [hAe]; exact h
  have hbA : ¬ A b := by rw [hAe]; exact Nat.not_le.mpr hbl
  intro fu
  induction fu with
  | zero => intro S1 S2 v3 hf; exact ob_none hf
  | succ fu ih18 =>
    intro S1 S2 v3 hf H locs hP hD hS ls hl
    rw [f_L_law_b18] at hf
    have blk952 : ∀ (S1 : ST_X5) (S2 : ST_X6) (v3 : Int32), f_L_law_b952 L xs (f_L_law_b18 L xs fu) S1 S2 v3 = some 1 → ∀ (H : Heap) (locs : List Loc), va_P G.1 vwCl (ce_X5 G.2.1 a1 S1 ++ ce_X6 G.2.1 a2 S2) H → va_D A (ce_X5 G.2.1 a1 S1 ++ ce_X6 G.2.1 a2 S2) → va_S A s.heap H locs → ∀ (ls : Array Slot), lv_has ls 4 [(0, .ref b), (1, .ref a1.1), (2, .ref a2.1), (3, .int v3)] → W p l e room_1 s m #[Value.ref b] below meth c H locs 600000 7302250 (lw_Z below #[Value.ref b] s) (F0 m 952 ls []) := by
      intro S1 S2 v3 hf H locs hP hD hS ls hl
      rw [f_L_law_b952] at hf
      refine lv_iinc (v := v3 + 5) (lv' := [(3, .int (v3 + 5)), (0, .ref b), (1, .ref a1.1), (2, .ref a2.1)]) hx hb dL_law_952 hl (k := 3) rfl rfl (by decide) rfl (fun ls hl => ?_)
      refine lv_goto (tgt := 18) hx hb dL_law_955 (by decide) ?_
      exact ih18 _ _ _ hf _ _ hP hD hS _ (lv_sub hl [1, 2, 3, 0] rfl)
    refine lv_iload_n hx hb dL_law_18 rfl (lv_at hl 3 rfl) ?_
    refine lv_aload_n hx hb dL_law_19 rfl (lv_at hl 0 rfl) ?_
    refine va_slen hx hb hX hbl hbA hS dL_law_20 ?_
    refine lv_iconst (v := 5) hx hb dL_law_21 (by decide) ?_
    refine lv_isub hx hb dL_law_22 ?_
    refine lv_icmp_gt (tgt := 958) hx hb dL_law_23 (by decide) (fun c1 => ?_) (fun c1 => ?_)
    · replace hf := ob_pos c1 hf
      refine lv_iconst (v := 1) hx hb dL_law_958 (by decide) ?_
      refine va_forget (fun q hq => by have h9 := hS.2.2 q hq; rw [hAe] at h9; exact h9) ?_
      exact lw_ret hx hb hr hlocks dL_law_959
    · replace hf := ob_neg c1 hf
      refine lv_aload_n hx hb dL_law_26 rfl (lv_at hl 0 rfl) ?_
      refine lv_iload_n hx hb dL_law_27 rfl (lv_at hl 3 rfl) ?_
      obtain ⟨hg2, hf⟩ := ob_guard hf
      refine va_sld hx hb hX hbl hbA hS hg2 dL_law_28 ?_
      refine lv_bipush (v := 31) hx hb dL_law_29 (by decide) ?_
      refine lv_iand hx hb dL_law_31 ?_
      by_cases c3_0 : (xs v3.toNatClampNeg) &&& 31 = 0
      · replace hf := ob_pos c3_0 hf
        refine lv_tableIn (x := (xs v3.toNatClampNeg) &&& 31) (off := 144) (tgt := 176) hx hb dL_law_32 (by rw [c3_0]; decide) (by rw [c3_0]; decide) (by rw [c3_0]; decide) (by decide) ?_
        exact law_case_0 C0 G a1 a2 hK A hAe hE fu blk952 S1 S2 v3 hf _ _ hP hD hS _ hl
      · replace hf := ob_neg c3_0 hf
        by_cases c3_1 : (xs v3.toNatClampNeg) &&& 31 = 1
        · replace hf := ob_pos c3_1 hf
          refine lv_tableIn (x := (xs v3.toNatClampNeg) &&& 31) (off := 167) (tgt := 199) hx hb dL_law_32 (by rw [c3_1]; decide) (by rw [c3_1]; decide) (by rw [c3_1]; decide) (by decide) ?_
          exact law_case_1 C0 G a1 a2 hK A hAe hE fu blk952 S1 S2 v3 hf _ _ hP hD hS _ hl
        · replace hf := ob_neg c3_1 hf
          by_cases c3_2 : (xs v3.toNatClampNeg) &&& 31 = 2
          · replace hf := ob_pos c3_2 hf
            refine lv_tableIn (x := (xs v3.toNatClampNeg) &&& 31) (off := 180) (tgt := 212) hx hb dL_law_32 (by rw [c3_2]; decide) (by rw [c3_2]; decide) (by rw [c3_2]; decide) (by decide) ?_
            exact law_case_2 C0 G a1 a2 hK A hAe hE fu blk952 S1 S2 v3 hf _ _ hP hD hS _ hl
          · replace hf := ob_neg c3_2 hf
            by_cases c3_3 : (xs v3.toNatClampNeg) &&& 31 = 3
            · replace hf := ob_pos c3_3 hf
              refine lv_tableIn (x := (xs v3.toNatClampNeg) &&& 31) (off := 213) (tgt := 245) hx hb dL_law_32 (by rw [c3_3]; decide) (by rw [c3_3]; decide) (by rw [c3_3]; decide) (by decide) ?_
              exact law_case_3 C0 G a1 a2 hK A hAe hE fu blk952 S1 S2 v3 hf _ _ hP hD hS _ hl
            · replace hf := ob_neg c3_3 hf
              by_cases c3_4 : (xs v3.toNatClampNeg) &&& 31 = 4
              · replace hf := ob_pos c3_4 hf
                refine lv_tableIn (x := (xs v3.toNatClampNeg) &&& 31) (off := 246) (tgt := 278) hx hb dL_law_32 (by rw [c3_4]; decide) (by rw [c3_4]; decide) (by rw [c3_4]; decide) (by decide) ?_
                exact law_case_4 C0 G a1 a2 hK A hAe hE fu blk952 S1 S2 v3 hf _ _ hP hD hS _ hl
              · replace hf := ob_neg c3_4 hf
                by_cases c3_5 : (xs v3.toNatClampNeg) &&& 31 = 5
                · replace hf := ob_pos c3_5 hf
                  refine lv_tableIn (x := (xs v3.toNatClampNeg) &&& 31) (off := 279) (tgt := 311) hx hb dL_law_32 (by rw [c3_5]; decide) (by rw [c3_5]; decide) (by rw [c3_5]; decide) (by decide) ?_
                  exact law_case_5 C0 G a1 a2 hK A hAe hE fu blk952 S1 S2 v3 hf _ _ hP hD hS _ hl
                · replace hf := ob_neg c3_5 hf
                  by_cases c3_6 : (xs v3.toNatClampNeg) &&& 31 = 6
                  · replace hf := ob_pos c3_6 hf
                    refine lv_tableIn (x := (xs v3.toNatClampNeg) &&& 31) (off := 312) (tgt := 344) hx hb dL_law_32 (by rw [c3_6]; decide) (by rw [c3_6]; decide) (by rw [c3_6]; decide) (by decide) ?_
                    exact law_case_6 C0 G a1 a2 hK A hAe hE fu blk952 S1 S2 v3 hf _ _ hP hD hS _ hl
                  · replace hf := ob_neg c3_6 hf
                    by_cases c3_7 : (xs v3.toNatClampNeg) &&& 31 = 7
                    · replace hf := ob_pos c3_7 hf
                      refine lv_tableIn (x := (xs v3.toNatClampNeg) &&& 31) (off := 335) (tgt := 367) hx hb dL_law_32 (by rw [c3_7]; decide) (by rw [c3_7]; decide) (by rw [c3_7]; decide) (by decide) ?_
                      exact law_case_7 C0 G a1 a2 hK A hAe hE fu blk952 S1 S2 v3 hf _ _ hP hD hS _ hl
                    · replace hf := ob_neg c3_7 hf
                      by_cases c3_8 : (xs v3.toNatClampNeg) &&& 31 = 8
                      · replace hf := ob_pos c3_8 hf
                        refine lv_tableIn (x := (xs v3.toNatClampNeg) &&& 31) (off := 358) (tgt := 390) hx hb dL_law_32 (by rw [c3_8]; decide) (by rw [c3_8]; decide) (by rw [c3_8]; decide) (by decide) ?_
                        exact law_case_8 C0 G a1 a2 hK A hAe hE fu blk952 S1 S2 v3 hf _ _ hP hD hS _ hl
                      · replace hf := ob_neg c3_8 hf
                        by_cases c3_9 : (xs v3.toNatClampNeg) &&& 31 = 9
                        · replace hf := ob_pos c3_9 hf
                          refine lv_tableIn (x := (xs v3.toNatClampNeg) &&& 31) (off := 391) (tgt := 423) hx hb dL_law_32 (by rw [c3_9]; decide) (by rw [c3_9]; decide) (by rw [c3_9]; decide) (by decide) ?_
                          exact law_case_9 C0 G a1 a2 hK A hAe hE fu blk952 S1 S2 v3 hf _ _ hP hD hS _ hl
                        · replace hf := ob_neg c3_9 hf
                          by_cases c3_10 : (xs v3.toNatClampNeg) &&& 31 = 10
                          · replace hf := ob_pos c3_10 hf
                            refine lv_tableIn (x := (xs v3.toNatClampNeg) &&& 31) (off := 424) (tgt := 456) hx hb dL_law_32 (by rw [c3_10]; decide) (by rw [c3_10]; decide) (by rw [c3_10]; decide) (by decide) ?_
                            exact law_case_10 C0 G a1 a2 hK A hAe hE fu blk952 S1 S2 v3 hf _ _ hP hD hS _ hl
                          · replace hf := ob_neg c3_10 hf
                            by_cases c3_11 : (xs v3.toNatClampNeg) &&& 31 = 11
                            · replace hf := ob_pos c3_11 hf
                              refine lv_tableIn (x := (xs v3.toNatClampNeg) &&& 31) (off := 447) (tgt := 479) hx hb dL_law_32 (by rw [c3_11]; decide) (by rw [c3_11]; decide) (by rw [c3_11]; decide) (by decide) ?_
                              exact law_case_11 C0 G a1 a2 hK A hAe hE fu blk952 S1 S2 v3 hf _ _ hP hD hS _ hl
                            · replace hf := ob_neg c3_11 hf
                              by_cases c3_12 : (xs v3.toNatClampNeg) &&& 31 = 12
                              · replace hf := ob_pos c3_12 hf
                                refine lv_tableIn (x := (xs v3.toNatClampNeg) &&& 31) (off := 490) (tgt := 522) hx hb dL_law_32 (by rw [c3_12]; decide) (by rw [c3_12]; decide) (by rw [c3_12]; decide) (by decide) ?_
                                exact law_case_12 C0 G a1 a2 hK A hAe hE fu blk952 S1 S2 v3 hf _ _ hP hD hS _ hl
                              · replace hf := ob_neg c3_12 hf
                                by_cases c3_13 : (xs v3.toNatClampNeg) &&& 31 = 13
                                · replace hf := ob_pos c3_13 hf
                                  refine lv_tableIn (x := (xs v3.toNatClampNeg) &&& 31) (off := 523) (tgt := 555) hx hb dL_law_32 (by rw [c3_13]; decide) (by rw [c3_13]; decide) (by rw [c3_13]; decide) (by decide) ?_
                                  exact law_case_13 C0 G a1 a2 hK A hAe hE fu blk952 S1 S2 v3 hf _ _ hP hD hS _ hl
                                · replace hf := ob_neg c3_13 hf
                                  by_cases c3_14 : (xs v3.toNatClampNeg) &&& 31 = 14
                                  · replace hf := ob_pos c3_14 hf
                                    refine lv_tableIn (x := (xs v3.toNatClampNeg) &&& 31) (off := 546) (tgt := 578) hx hb dL_law_32 (by rw [c3_14]; decide) (by rw [c3_14]; decide) (by rw [c3_14]; decide) (by decide) ?_
                                    exact law_case_14 C0 G a1 a2 hK A hAe hE fu blk952 S1 S2 v3 hf _ _ hP hD hS _ hl
                                  · replace hf := ob_neg c3_14 hf
                                    by_cases c3_15 : (xs v3.toNatClampNeg) &&& 31 = 15
                                    · replace hf := ob_pos c3_15 hf
                                      refine lv_tableIn (x := (xs v3.toNatClampNeg) &&& 31) (off := 559) (tgt := 591) hx hb dL_law_32 (by rw [c3_15]; decide) (by rw [c3_15]; decide) (by rw [c3_15]; decide) (by decide) ?_
                                      exact law_case_15 C0 G a1 a2 hK A hAe hE fu blk952 S1 S2 v3 hf _ _ hP hD hS _ hl
                                    · replace hf := ob_neg c3_15 hf
                                      by_cases c3_16 : (xs v3.toNatClampNeg) &&& 31 = 16
                                      · replace hf := ob_pos c3_16 hf
                                        refine lv_tableIn (x := (xs v3.toNatClampNeg) &&& 31) (off := 572) (tgt := 604) hx hb dL_law_32 (by rw [c3_16]; decide) (by rw [c3_16]; decide) (by rw [c3_16]; decide) (by decide) ?_
                                        exact law_case_16 C0 G a1 a2 hK A hAe hE fu blk952 S1 S2 v3 hf _ _ hP hD hS _ hl
                                      · replace hf := ob_neg c3_16 hf
                                        by_cases c3_17 : (xs v3.toNatClampNeg) &&& 31 = 17
                                        · replace hf := ob_pos c3_17 hf
                                          refine lv_tableIn (x := (xs v3.toNatClampNeg) &&& 31) (off := 625) (tgt := 657) hx hb dL_law_32 (by rw [c3_17]; decide) (by rw [c3_17]; decide) (by rw [c3_17]; decide) (by decide) ?_
                                          exact law_case_17 C0 G a1 a2 hK A hAe hE fu blk952 S1 S2 v3 hf _ _ hP hD hS _ hl
                                        · replace hf := ob_neg c3_17 hf
                                          by_cases c3_18 : (xs v3.toNatClampNeg) &&& 31 = 18
                                          · replace hf := ob_pos c3_18 hf
                                            refine lv_tableIn (x := (xs v3.toNatClampNeg) &&& 31) (off := 638) (tgt := 670) hx hb dL_law_32 (by rw [c3_18]; decide) (by rw [c3_18]; decide) (by rw [c3_18]; decide) (by decide) ?_
                                            exact law_case_18 C0 G a1 a2 hK A hAe hE fu blk952 S1 S2 v3 hf _ _ hP hD hS _ hl
                                          · replace hf := ob_neg c3_18 hf
                                            by_cases c3_19 : (xs v3.toNatClampNeg) &&& 31 = 19
                                            · replace hf := ob_pos c3_19 hf
                                              refine lv_tableIn (x := (xs v3.toNatClampNeg) &&& 31) (off := 671) (tgt := 703) hx hb dL_law_32 (by rw [c3_19]; decide) (by rw [c3_19]; decide) (by rw [c3_19]; decide) (by decide) ?_
                                              exact law_case_19 C0 G a1 a2 hK A hAe hE fu blk952 S1 S2 v3 hf _ _ hP hD hS _ hl
                                            · replace hf := ob_neg c3_19 hf
                                              by_cases c3_20 : (xs v3.toNatClampNeg) &&& 31 = 20
                                              · replace hf := ob_pos c3_20 hf
                                                refine lv_tableIn (x := (xs v3.toNatClampNeg) &&& 31) (off := 684) (tgt := 716) hx hb dL_law_32 (by rw [c3_20]; decide) (by rw [c3_20]; decide) (by rw [c3_20]; decide) (by decide) ?_
                                                exact law_case_20 C0 G a1 a2 hK A hAe hE fu blk952 S1 S2 v3 hf _ _ hP hD hS _ hl
                                              · replace hf := ob_neg c3_20 hf
                                                by_cases c3_21 : (xs v3.toNatClampNeg) &&& 31 = 21
                                                · replace hf := ob_pos c3_21 hf
                                                  refine lv_tableIn (x := (xs v3.toNatClampNeg) &&& 31) (off := 697) (tgt := 729) hx hb dL_law_32 (by rw [c3_21]; decide) (by rw [c3_21]; decide) (by rw [c3_21]; decide) (by decide) ?_
                                                  exact law_case_21 C0 G a1 a2 hK A hAe hE fu blk952 S1 S2 v3 hf _ _ hP hD hS _ hl
                                                · replace hf := ob_neg c3_21 hf
                                                  by_cases c3_22 : (xs v3.toNatClampNeg) &&& 31 = 22
                                                  · replace hf := ob_pos c3_22 hf
                                                    refine lv_tableIn (x := (xs v3.toNatClampNeg) &&& 31) (off := 720) (tgt := 752) hx hb dL_law_32 (by rw [c3_22]; decide) (by rw [c3_22]; decide) (by rw [c3_22]; decide) (by decide) ?_
                                                    exact law_case_22 C0 G a1 a2 hK A hAe hE fu blk952 S1 S2 v3 hf _ _ hP hD hS _ hl
                                                  · replace hf := ob_neg c3_22 hf
                                                    by_cases c3_23 : (xs v3.toNatClampNeg) &&& 31 = 23
                                                    · replace hf := ob_pos c3_23 hf
                                                      refine lv_tableIn (x := (xs v3.toNatClampNeg) &&& 31) (off := 733) (tgt := 765) hx hb dL_law_32 (by rw [c3_23]; decide) (by rw [c3_23]; decide) (by rw [c3_23]; decide) (by decide) ?_
                                                      exact law_case_23 C0 G a1 a2 hK A hAe hE fu blk952 S1 S2 v3 hf _ _ hP hD hS _ hl
                                                    · replace hf := ob_neg c3_23 hf
                                                      by_cases c3_24 : (xs v3.toNatClampNeg) &&& 31 = 24
                                                      · replace hf := ob_pos c3_24 hf
                                                        refine lv_tableIn (x := (xs v3.toNatClampNeg) &&& 31) (off := 766) (tgt := 798) hx hb dL_law_32 (by rw [c3_24]; decide) (by rw [c3_24]; decide) (by rw [c3_24]; decide) (by decide) ?_
                                                        exact law_case_24 C0 G a1 a2 hK A hAe hE fu blk952 S1 S2 v3 hf _ _ hP hD hS _ hl
                                                      · replace hf := ob_neg c3_24 hf
                                                        by_cases c3_25 : (xs v3.toNatClampNeg) &&& 31 = 25
                                                        · replace hf := ob_pos c3_25 hf
                                                          refine lv_tableIn (x := (xs v3.toNatClampNeg) &&& 31) (off := 779) (tgt := 811) hx hb dL_law_32 (by rw [c3_25]; decide) (by rw [c3_25]; decide) (by rw [c3_25]; decide) (by decide) ?_
                                                          exact law_case_25 C0 G a1 a2 hK A hAe hE fu blk952 S1 S2 v3 hf _ _ hP hD hS _ hl
                                                        · replace hf := ob_neg c3_25 hf
                                                          by_cases c3_26 : (xs v3.toNatClampNeg) &&& 31 = 26
                                                          · replace hf := ob_pos c3_26 hf
                                                            refine lv_tableIn (x := (xs v3.toNatClampNeg) &&& 31) (off := 792) (tgt := 824) hx hb dL_law_32 (by rw [c3_26]; decide) (by rw [c3_26]; decide) (by rw [c3_26]; decide) (by decide) ?_
                                                            exact law_case_26 C0 G a1 a2 hK A hAe hE fu blk952 S1 S2 v3 hf _ _ hP hD hS _ hl
                                                          · replace hf := ob_neg c3_26 hf
                                                            by_cases c3_27 : (xs v3.toNatClampNeg) &&& 31 = 27
                                                            · replace hf := ob_pos c3_27 hf
                                                              refine lv_tableIn (x := (xs v3.toNatClampNeg) &&& 31) (off := 825) (tgt := 857) hx hb dL_law_32 (by rw [c3_27]; decide) (by rw [c3_27]; decide) (by rw [c3_27]; decide) (by decide) ?_
                                                              exact law_case_27 C0 G a1 a2 hK A hAe hE fu blk952 S1 S2 v3 hf _ _ hP hD hS _ hl
                                                            · replace hf := ob_neg c3_27 hf
                                                              by_cases c3_28 : (xs v3.toNatClampNeg) &&& 31 = 28
                                                              · replace hf := ob_pos c3_28 hf
                                                                refine lv_tableIn (x := (xs v3.toNatClampNeg) &&& 31) (off := 848) (tgt := 880) hx hb dL_law_32 (by rw [c3_28]; decide) (by rw [c3_28]; decide) (by rw [c3_28]; decide) (by decide) ?_
                                                                exact law_case_28 C0 G a1 a2 hK A hAe hE fu blk952 S1 S2 v3 hf _ _ hP hD hS _ hl
                                                              · replace hf := ob_neg c3_28 hf
                                                                by_cases c3_29 : (xs v3.toNatClampNeg) &&& 31 = 29
                                                                · replace hf := ob_pos c3_29 hf
                                                                  refine lv_tableIn (x := (xs v3.toNatClampNeg) &&& 31) (off := 871) (tgt := 903) hx hb dL_law_32 (by rw [c3_29]; decide) (by rw [c3_29]; decide) (by rw [c3_29]; decide) (by decide) ?_
                                                                  exact law_case_29 C0 G a1 a2 hK A hAe hE fu blk952 S1 S2 v3 hf _ _ hP hD hS _ hl
                                                                · replace hf := ob_neg c3_29 hf
                                                                  by_cases c3_30 : (xs v3.toNatClampNeg) &&& 31 = 30
                                                                  · replace hf := ob_pos c3_30 hf
                                                                    refine lv_tableIn (x := (xs v3.toNatClampNeg) &&& 31) (off := 884) (tgt := 916) hx hb dL_law_32 (by rw [c3_30]; decide) (by rw [c3_30]; decide) (by rw [c3_30]; decide) (by decide) ?_
                                                                    exact law_case_30 C0 G a1 a2 hK A hAe hE fu blk952 S1 S2 v3 hf _ _ hP hD hS _ hl
                                                                  · replace hf := ob_neg c3_30 hf
                                                                    by_cases c3_31 : (xs v3.toNatClampNeg) &&& 31 = 31
                                                                    · replace hf := ob_pos c3_31 hf
                                                                      refine lv_tableIn (x := (xs v3.toNatClampNeg) &&& 31) (off := 897) (tgt := 929) hx hb dL_law_32 (by rw [c3_31]; decide) (by rw [c3_31]; decide) (by rw [c3_31]; decide) (by decide) ?_
                                                                      exact law_case_31 C0 G a1 a2 hK A hAe hE fu blk952 S1 S2 v3 hf _ _ hP hD hS _ hl
                                                                    · replace hf := ob_neg c3_31 hf
                                                                      have tc3_0 := lv_neT (a := 0) c3_0 rfl
                                                                      have tc3_1 := lv_neT (a := 1) c3_1 rfl
                                                                      have tc3_2 := lv_neT (a := 2) c3_2 rfl
                                                                      have tc3_3 := lv_neT (a := 3) c3_3 rfl
                                                                      have tc3_4 := lv_neT (a := 4) c3_4 rfl
                                                                      have tc3_5 := lv_neT (a := 5) c3_5 rfl
                                                                      have tc3_6 := lv_neT (a := 6) c3_6 rfl
                                                                      have tc3_7 := lv_neT (a := 7) c3_7 rfl
                                                                      have tc3_8 := lv_neT (a := 8) c3_8 rfl
                                                                      have tc3_9 := lv_neT (a := 9) c3_9 rfl
                                                                      have tc3_10 := lv_neT (a := 10) c3_10 rfl
                                                                      have tc3_11 := lv_neT (a := 11) c3_11 rfl
                                                                      have tc3_12 := lv_neT (a := 12) c3_12 rfl
                                                                      have tc3_13 := lv_neT (a := 13) c3_13 rfl
                                                                      have tc3_14 := lv_neT (a := 14) c3_14 rfl
                                                                      have tc3_15 := lv_neT (a := 15) c3_15 rfl
                                                                      have tc3_16 := lv_neT (a := 16) c3_16 rfl
                                                                      have tc3_17 := lv_neT (a := 17) c3_17 rfl
                                                                      have tc3_18 := lv_neT (a := 18) c3_18 rfl
                                                                      have tc3_19 := lv_neT (a := 19) c3_19 rfl
                                                                      have tc3_20 := lv_neT (a := 20) c3_20 rfl
                                                                      have tc3_21 := lv_neT (a := 21) c3_21 rfl
                                                                      have tc3_22 := lv_neT (a := 22) c3_22 rfl
                                                                      have tc3_23 := lv_neT (a := 23) c3_23 rfl
                                                                      have tc3_24 := lv_neT (a := 24) c3_24 rfl
                                                                      have tc3_25 := lv_neT (a := 25) c3_25 rfl
                                                                      have tc3_26 := lv_neT (a := 26) c3_26 rfl
                                                                      have tc3_27 := lv_neT (a := 27) c3_27 rfl
                                                                      have tc3_28 := lv_neT (a := 28) c3_28 rfl
                                                                      have tc3_29 := lv_neT (a := 29) c3_29 rfl
                                                                      have tc3_30 := lv_neT (a := 30) c3_30 rfl
                                                                      have tc3_31 := lv_neT (a := 31) c3_31 rfl
                                                                      refine lv_tableOut (x := (xs v3.toNatClampNeg) &&& 31) (tgt := 952) hx hb dL_law_32 (by omega) (by decide) ?_
                                                                      exact blk952 _ _ _ hf _ _ hP hD hS _ (lv_sub hl [0, 1, 2, 3] rfl)
