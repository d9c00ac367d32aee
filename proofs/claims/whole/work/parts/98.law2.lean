/-! the law's cases -/
theorem nI_p (i k : Nat) : nI i + nI k = nI (i + k) := (Int32.ofNat_add i k).symm
theorem lcmp_self (x : Int64) : lg_cmp x x = 0 := by
  unfold lg_cmp
  simp
theorem lk_nx {E : EV} {p : Program} {e : Env} {s : State} {m : MethodId} {below : List Frame} {meth : Method} {c : Code} {l : Launch} {b i : Nat} {H : Heap} {locs : List Loc} {ls : Array Slot} {A : Nat → Prop} {w : MW} (F : LwF E p s m c b A) (hH : HR E w A s H locs) (hl : lv_has ls 4 [(3, .int (nI i)), (2, .ref (E.ad 127)), (1, .ref (E.ad 0)), (0, .ref b)])
    (kk : ∀ (ls : Array Slot), HR E w A s H locs → lv_has ls 4 [(3, .int (nI (i + 6))), (2, .ref (E.ad 127)), (1, .ref (E.ad 0)), (0, .ref b)] → W p l e room_1 s m #[Value.ref b] below meth c H locs 221 83122 (lw_Z below #[Value.ref b] s) (F0 m 18 ls [])) : W p l e room_1 s m #[Value.ref b] below meth c H locs 221 83122 (lw_Z below #[Value.ref b] s) (F0 m 1208 ls []) := by
  obtain ⟨hx, hb, hml, hown, hts, hK, hG, hAs, hAc, hi2⟩ := id F
  refine lv_iinc (k := 0) (v := nI (i + 6)) hx hb d_Lw_law_1208 hl rfl (nI_p i 6) (by decide) rfl (fun ls hl => ?_)
  refine lv_goto (tgt := 18) hx hb d_Lw_law_1211 (by decide) ?_
  exact kk ls hH (lv_sub hl [0, 1, 2, 3] rfl)
set_option maxHeartbeats 4000000 in
set_option maxRecDepth 100000 in
theorem lk_0 {E : EV} {p : Program} {e : Env} {s : State} {m : MethodId} {below : List Frame} {meth : Method} {c : Code} (l : Launch) {b L i : Nat} {xs : Nat → Int32} {H : Heap} {locs : List Loc} {ls : Array Slot} {A : Nat → Prop} {w : MW} (F : LwF E p s m c b A) (hX : va_X b L xs s s.heap) (hbl : b < s.heap.size) (hbA : ¬ A b) (hL : L ≤ 3072) (hi : i + 6 ≤ L) (hw : LKz (100 * (i : Int)) w) (hH : HR E w A s H locs) (hl : lv_has ls 4 [(3, .int (nI i)), (2, .ref (E.ad 127)), (1, .ref (E.ad 0)), (0, .ref b)])
    (kk : ∀ (w2 : MW) (H : Heap) (locs : List Loc), LKz (100 * (i : Int) + 600) w2 → ∀ (ls : Array Slot), HR E w2 A s H locs → lv_has ls 4 [(3, .int (nI (i + 6))), (2, .ref (E.ad 127)), (1, .ref (E.ad 0)), (0, .ref b)] → W p l e room_1 s m #[Value.ref b] below meth c H locs 221 83122 (lw_Z below #[Value.ref b] s) (F0 m 18 ls [])) : W p l e room_1 s m #[Value.ref b] below meth c H locs 221 83122 (lw_Z below #[Value.ref b] s) (F0 m 164 ls []) := by
  obtain ⟨hx, hb, hml, hown, hts, hK, hG, hAs, hAc, hi2⟩ := id F
  refine lv_aload_n hx hb d_Lw_law_164 rfl (lv_at hl 2 rfl) ?_
  refine lv_aload_n hx hb d_Lw_law_165 rfl (lv_at hl 3 rfl) ?_
  refine lv_iload_n hx hb d_Lw_law_166 rfl (lv_at hl 0 rfl) ?_
  refine lv_iconst (v := 1) hx hb d_Lw_law_167 (by decide) ?_
  refine lv_iadd hx hb d_Lw_law_168 ?_
  refine lv_topi (fun x0 e0 => ?_)
  obtain rfl : x0 = nI (i + 1) := e0.trans (nI_p i 1)
  refine va_sld hx hb hX hbl hbA hH.2 (vp_in_nI (by omega) (by omega)) d_Lw_law_169 ?_
  refine lv_topi (fun y1 ey1 => ?_)
  refine lv_aload_n hx hb d_Lw_law_170 rfl (lv_at hl 3 rfl) ?_
  refine lv_iload_n hx hb d_Lw_law_171 rfl (lv_at hl 0 rfl) ?_
  refine lv_iconst (v := 2) hx hb d_Lw_law_172 (by decide) ?_
  refine lv_iadd hx hb d_Lw_law_173 ?_
  refine lv_topi (fun x0 e0 => ?_)
  obtain rfl : x0 = nI (i + 2) := e0.trans (nI_p i 2)
  refine va_sld hx hb hX hbl hbA hH.2 (vp_in_nI (by omega) (by omega)) d_Lw_law_174 ?_
  refine lv_topi (fun y2 ey2 => ?_)
  refine lv_aload_n hx hb d_Lw_law_175 rfl (lv_at hl 3 rfl) ?_
  refine lv_iload_n hx hb d_Lw_law_176 rfl (lv_at hl 0 rfl) ?_
  refine lv_iconst (v := 3) hx hb d_Lw_law_177 (by decide) ?_
  refine lv_iadd hx hb d_Lw_law_178 ?_
  refine lv_topi (fun x0 e0 => ?_)
  obtain rfl : x0 = nI (i + 3) := e0.trans (nI_p i 3)
  refine va_sld hx hb hX hbl hbA hH.2 (vp_in_nI (by omega) (by omega)) d_Lw_law_179 ?_
  refine lv_topi (fun y3 ey3 => ?_)
  refine lv_aload_n hx hb d_Lw_law_180 rfl (lv_at hl 3 rfl) ?_
  refine lv_iload_n hx hb d_Lw_law_181 rfl (lv_at hl 0 rfl) ?_
  refine lv_iconst (v := 4) hx hb d_Lw_law_182 (by decide) ?_
  refine lv_iadd hx hb d_Lw_law_183 ?_
  refine lv_topi (fun x0 e0 => ?_)
  obtain rfl : x0 = nI (i + 4) := e0.trans (nI_p i 4)
  refine va_sld hx hb hX hbl hbA hH.2 (vp_in_nI (by omega) (by omega)) d_Lw_law_184 ?_
  refine lv_topi (fun y4 ey4 => ?_)
  refine lv_aload_n hx hb d_Lw_law_185 rfl (lv_at hl 3 rfl) ?_
  refine lv_iload_n hx hb d_Lw_law_186 rfl (lv_at hl 0 rfl) ?_
  refine lv_iconst (v := 5) hx hb d_Lw_law_187 (by decide) ?_
  refine lv_iadd hx hb d_Lw_law_188 ?_
  refine lv_topi (fun x0 e0 => ?_)
  obtain rfl : x0 = nI (i + 5) := e0.trans (nI_p i 5)
  refine va_sld hx hb hX hbl hbA hH.2 (vp_in_nI (by omega) (by omega)) d_Lw_law_189 ?_
  refine lv_topi (fun y5 ey5 => ?_)
  refine lw_cv (ν := 0) (na := 5) (ci := 0) (idx := 13) (k := 0) (iv := (y_Bh_feed, b_Bh_feed, 6, (some .int))) (As := [.int y1, .int y2, .int y3, .int y4, .int y5]) (rest := []) F rfl rfl rfl mw_733 mw_734 mw_735 mw_1 mw_736 ⟨by decide +kernel, by decide +kernel, by decide +kernel⟩ (by decide) d_Lw_law_190 rfl rfl (Nat.le_of_ble_eq_true rfl) rfl (Nat.le_of_ble_eq_true rfl) (pz_feed (by omega) hw) hH hl (fun v w1 H locs hq hH => ?_)
  obtain ⟨r0, rfl, hT⟩ := hq
  refine W.eq (g2 := F0 m 193 ls [.int r0]) rfl ?_
  refine lv_aload_n hx hb d_Lw_law_193 rfl (lv_at hl 1 rfl) ?_
  refine lv_aload_n hx hb d_Lw_law_194 rfl (lv_at hl 3 rfl) ?_
  refine lv_iload_n hx hb d_Lw_law_195 rfl (lv_at hl 0 rfl) ?_
  refine lv_iconst (v := 1) hx hb d_Lw_law_196 (by decide) ?_
  refine lv_iadd hx hb d_Lw_law_197 ?_
  refine lv_topi (fun x0 e0 => ?_)
  obtain rfl : x0 = nI (i + 1) := e0.trans (nI_p i 1)
  refine va_sld hx hb hX hbl hbA hH.2 (vp_in_nI (by omega) (by omega)) d_Lw_law_198 ?_
  refine lv_topi (fun x0 e0 => ?_)
  obtain rfl : y1 = x0 := ey1.trans e0.symm
  refine lv_aload_n hx hb d_Lw_law_199 rfl (lv_at hl 3 rfl) ?_
  refine lv_iload_n hx hb d_Lw_law_200 rfl (lv_at hl 0 rfl) ?_
  refine lv_iconst (v := 2) hx hb d_Lw_law_201 (by decide) ?_
  refine lv_iadd hx hb d_Lw_law_202 ?_
  refine lv_topi (fun x0 e0 => ?_)
  obtain rfl : x0 = nI (i + 2) := e0.trans (nI_p i 2)
  refine va_sld hx hb hX hbl hbA hH.2 (vp_in_nI (by omega) (by omega)) d_Lw_law_203 ?_
  refine lv_topi (fun x0 e0 => ?_)
  obtain rfl : y2 = x0 := ey2.trans e0.symm
  refine lv_aload_n hx hb d_Lw_law_204 rfl (lv_at hl 3 rfl) ?_
  refine lv_iload_n hx hb d_Lw_law_205 rfl (lv_at hl 0 rfl) ?_
  refine lv_iconst (v := 3) hx hb d_Lw_law_206 (by decide) ?_
  refine lv_iadd hx hb d_Lw_law_207 ?_
  refine lv_topi (fun x0 e0 => ?_)
  obtain rfl : x0 = nI (i + 3) := e0.trans (nI_p i 3)
  refine va_sld hx hb hX hbl hbA hH.2 (vp_in_nI (by omega) (by omega)) d_Lw_law_208 ?_
  refine lv_topi (fun x0 e0 => ?_)
  obtain rfl : y3 = x0 := ey3.trans e0.symm
  refine lv_aload_n hx hb d_Lw_law_209 rfl (lv_at hl 3 rfl) ?_
  refine lv_iload_n hx hb d_Lw_law_210 rfl (lv_at hl 0 rfl) ?_
  refine lv_iconst (v := 4) hx hb d_Lw_law_211 (by decide) ?_
  refine lv_iadd hx hb d_Lw_law_212 ?_
  refine lv_topi (fun x0 e0 => ?_)
  obtain rfl : x0 = nI (i + 4) := e0.trans (nI_p i 4)
  refine va_sld hx hb hX hbl hbA hH.2 (vp_in_nI (by omega) (by omega)) d_Lw_law_213 ?_
  refine lv_topi (fun x0 e0 => ?_)
  obtain rfl : y4 = x0 := ey4.trans e0.symm
  refine lv_aload_n hx hb d_Lw_law_214 rfl (lv_at hl 3 rfl) ?_
  refine lv_iload_n hx hb d_Lw_law_215 rfl (lv_at hl 0 rfl) ?_
  refine lv_iconst (v := 5) hx hb d_Lw_law_216 (by decide) ?_
  refine lv_iadd hx hb d_Lw_law_217 ?_
  refine lv_topi (fun x0 e0 => ?_)
  obtain rfl : x0 = nI (i + 5) := e0.trans (nI_p i 5)
  refine va_sld hx hb hX hbl hbA hH.2 (vp_in_nI (by omega) (by omega)) d_Lw_law_218 ?_
  refine lv_topi (fun x0 e0 => ?_)
  obtain rfl : y5 = x0 := ey5.trans e0.symm
  refine lw_cv (ν := 36) (na := 5) (ci := 12) (idx := 17) (k := 127) (iv := (y_Mo_feed, b_Mo_feed, 8, (some .int))) (As := [.int y1, .int y2, .int y3, .int y4, .int y5]) (rest := [.int r0]) F rfl rfl rfl mw_2056 mw_2057 mw_2058 mw_18 mw_2059 ⟨by decide +kernel, by decide +kernel, by decide +kernel⟩ (by decide) d_Lw_law_219 rfl rfl (Nat.le_of_ble_eq_true rfl) rfl (Nat.le_of_ble_eq_true rfl) hT hH hl (fun v w2 H locs hq hH => ?_)
  obtain ⟨r1, rfl, hw2, heq⟩ := hq
  refine W.eq (g2 := F0 m 222 ls [.int r1, .int r0]) rfl ?_
  refine lv_icmp_eq (tgt := 1208) hx hb d_Lw_law_222 (by decide) (fun _ => ?_) (fun h => absurd heq h)
  exact lk_nx F hH hl (kk w2 _ _ hw2)
set_option maxHeartbeats 4000000 in
set_option maxRecDepth 100000 in
theorem lk_1 {E : EV} {p : Program} {e : Env} {s : State} {m : MethodId} {below : List Frame} {meth : Method} {c : Code} (l : Launch) {b L i : Nat} {xs : Nat → Int32} {H : Heap} {locs : List Loc} {ls : Array Slot} {A : Nat → Prop} {w : MW} (F : LwF E p s m c b A) (hX : va_X b L xs s s.heap) (hbl : b < s.heap.size) (hbA : ¬ A b) (hL : L ≤ 3072) (hi : i + 6 ≤ L) (hw : LKz (100 * (i : Int)) w) (hH : HR E w A s H locs) (hl : lv_has ls 4 [(3, .int (nI i)), (2, .ref (E.ad 127)), (1, .ref (E.ad 0)), (0, .ref b)])
    (kk : ∀ (w2 : MW) (H : Heap) (locs : List Loc), LKz (100 * (i : Int) + 600) w2 → ∀ (ls : Array Slot), HR E w2 A s H locs → lv_has ls 4 [(3, .int (nI (i + 6))), (2, .ref (E.ad 127)), (1, .ref (E.ad 0)), (0, .ref b)] → W p l e room_1 s m #[Value.ref b] below meth c H locs 221 83122 (lw_Z below #[Value.ref b] s) (F0 m 18 ls [])) : W p l e room_1 s m #[Value.ref b] below meth c H locs 221 83122 (lw_Z below #[Value.ref b] s) (F0 m 227 ls []) := by
  obtain ⟨hx, hb, hml, hown, hts, hK, hG, hAs, hAc, hi2⟩ := id F
  refine lv_aload_n hx hb d_Lw_law_227 rfl (lv_at hl 2 rfl) ?_
  refine lv_aload_n hx hb d_Lw_law_228 rfl (lv_at hl 3 rfl) ?_
  refine lv_iload_n hx hb d_Lw_law_229 rfl (lv_at hl 0 rfl) ?_
  refine lv_iconst (v := 1) hx hb d_Lw_law_230 (by decide) ?_
  refine lv_iadd hx hb d_Lw_law_231 ?_
  refine lv_topi (fun x0 e0 => ?_)
  obtain rfl : x0 = nI (i + 1) := e0.trans (nI_p i 1)
  refine va_sld hx hb hX hbl hbA hH.2 (vp_in_nI (by omega) (by omega)) d_Lw_law_232 ?_
  refine lv_topi (fun y1 ey1 => ?_)
  refine lv_aload_n hx hb d_Lw_law_233 rfl (lv_at hl 3 rfl) ?_
  refine lv_iload_n hx hb d_Lw_law_234 rfl (lv_at hl 0 rfl) ?_
  refine lv_iconst (v := 2) hx hb d_Lw_law_235 (by decide) ?_
  refine lv_iadd hx hb d_Lw_law_236 ?_
  refine lv_topi (fun x0 e0 => ?_)
  obtain rfl : x0 = nI (i + 2) := e0.trans (nI_p i 2)
  refine va_sld hx hb hX hbl hbA hH.2 (vp_in_nI (by omega) (by omega)) d_Lw_law_237 ?_
  refine lv_topi (fun y2 ey2 => ?_)
  refine lw_cv (ν := 1) (na := 2) (ci := 0) (idx := 18) (k := 0) (iv := (y_Bh_end, b_Bh_end, 5, (some .int))) (As := [.int y1, .int y2]) (rest := []) F rfl rfl rfl mw_745 mw_746 mw_747 mw_1 mw_748 ⟨by decide +kernel, by decide +kernel, by decide +kernel⟩ (by decide) d_Lw_law_238 rfl rfl (Nat.le_of_ble_eq_true rfl) rfl (Nat.le_of_ble_eq_true rfl) (pz_end (by omega) hw) hH hl (fun v w1 H locs hq hH => ?_)
  obtain ⟨r0, rfl, hT⟩ := hq
  refine W.eq (g2 := F0 m 241 ls [.int r0]) rfl ?_
  refine lv_aload_n hx hb d_Lw_law_241 rfl (lv_at hl 1 rfl) ?_
  refine lv_aload_n hx hb d_Lw_law_242 rfl (lv_at hl 3 rfl) ?_
  refine lv_iload_n hx hb d_Lw_law_243 rfl (lv_at hl 0 rfl) ?_
  refine lv_iconst (v := 1) hx hb d_Lw_law_244 (by decide) ?_
  refine lv_iadd hx hb d_Lw_law_245 ?_
  refine lv_topi (fun x0 e0 => ?_)
  obtain rfl : x0 = nI (i + 1) := e0.trans (nI_p i 1)
  refine va_sld hx hb hX hbl hbA hH.2 (vp_in_nI (by omega) (by omega)) d_Lw_law_246 ?_
  refine lv_topi (fun x0 e0 => ?_)
  obtain rfl : y1 = x0 := ey1.trans e0.symm
  refine lv_aload_n hx hb d_Lw_law_247 rfl (lv_at hl 3 rfl) ?_
  refine lv_iload_n hx hb d_Lw_law_248 rfl (lv_at hl 0 rfl) ?_
  refine lv_iconst (v := 2) hx hb d_Lw_law_249 (by decide) ?_
  refine lv_iadd hx hb d_Lw_law_250 ?_
  refine lv_topi (fun x0 e0 => ?_)
  obtain rfl : x0 = nI (i + 2) := e0.trans (nI_p i 2)
  refine va_sld hx hb hX hbl hbA hH.2 (vp_in_nI (by omega) (by omega)) d_Lw_law_251 ?_
  refine lv_topi (fun x0 e0 => ?_)
  obtain rfl : y2 = x0 := ey2.trans e0.symm
  refine lw_cv (ν := 37) (na := 2) (ci := 12) (idx := 22) (k := 127) (iv := (y_Mo_end, b_Mo_end, 6, (some .int))) (As := [.int y1, .int y2]) (rest := [.int r0]) F rfl rfl rfl mw_2060 mw_2061 mw_2062 mw_18 mw_2063 ⟨by decide +kernel, by decide +kernel, by decide +kernel⟩ (by decide) d_Lw_law_252 rfl rfl (Nat.le_of_ble_eq_true rfl) rfl (Nat.le_of_ble_eq_true rfl) hT hH hl (fun v w2 H locs hq hH => ?_)
  obtain ⟨r1, rfl, hw2, heq⟩ := hq
  refine W.eq (g2 := F0 m 255 ls [.int r1, .int r0]) rfl ?_
  refine lv_icmp_eq (tgt := 1208) hx hb d_Lw_law_255 (by decide) (fun _ => ?_) (fun h => absurd heq h)
  exact lk_nx F hH hl (kk w2 _ _ hw2)
set_option maxHeartbeats 4000000 in
set_option maxRecDepth 100000 in
theorem lk_2 {E : EV} {p : Program} {e : Env} {s : State} {m : MethodId} {below : List Frame} {meth : Method} {c : Code} (l : Launch) {b L i : Nat} {xs : Nat → Int32} {H : Heap} {locs : List Loc} {ls : Array Slot} {A : Nat → Prop} {w : MW} (F : LwF E p s m c b A) (hX : va_X b L xs s s.heap) (hbl : b < s.heap.size) (hbA : ¬ A b) (hL : L ≤ 3072) (hi : i + 6 ≤ L) (hw : LKz (100 * (i : Int)) w) (hH : HR E w A s H locs) (hl : lv_has ls 4 [(3, .int (nI i)), (2, .ref (E.ad 127)), (1, .ref (E.ad 0)), (0, .ref b)])
    (kk : ∀ (w2 : MW) (H : Heap) (locs : List Loc), LKz (100 * (i : Int) + 600) w2 → ∀ (ls : Array Slot), HR E w2 A s H locs → lv_has ls 4 [(3, .int (nI (i + 6))), (2, .ref (E.ad 127)), (1, .ref (E.ad 0)), (0, .ref b)] → W p l e room_1 s m #[Value.ref b] below meth c H locs 221 83122 (lw_Z below #[Value.ref b] s) (F0 m 18 ls [])) : W p l e room_1 s m #[Value.ref b] below meth c H locs 221 83122 (lw_Z below #[Value.ref b] s) (F0 m 260 ls []) := by
  obtain ⟨hx, hb, hml, hown, hts, hK, hG, hAs, hAc, hi2⟩ := id F
  refine lv_aload_n hx hb d_Lw_law_260 rfl (lv_at hl 2 rfl) ?_
  refine lv_aload_n hx hb d_Lw_law_261 rfl (lv_at hl 3 rfl) ?_
  refine lv_iload_n hx hb d_Lw_law_262 rfl (lv_at hl 0 rfl) ?_
  refine lv_iconst (v := 1) hx hb d_Lw_law_263 (by decide) ?_
  refine lv_iadd hx hb d_Lw_law_264 ?_
  refine lv_topi (fun x0 e0 => ?_)
  obtain rfl : x0 = nI (i + 1) := e0.trans (nI_p i 1)
  refine va_sld hx hb hX hbl hbA hH.2 (vp_in_nI (by omega) (by omega)) d_Lw_law_265 ?_
  refine lv_topi (fun y1 ey1 => ?_)
  refine lv_aload_n hx hb d_Lw_law_266 rfl (lv_at hl 3 rfl) ?_
  refine lv_iload_n hx hb d_Lw_law_267 rfl (lv_at hl 0 rfl) ?_
  refine lv_iconst (v := 2) hx hb d_Lw_law_268 (by decide) ?_
  refine lv_iadd hx hb d_Lw_law_269 ?_
  refine lv_topi (fun x0 e0 => ?_)
  obtain rfl : x0 = nI (i + 2) := e0.trans (nI_p i 2)
  refine va_sld hx hb hX hbl hbA hH.2 (vp_in_nI (by omega) (by omega)) d_Lw_law_270 ?_
  refine lv_topi (fun y2 ey2 => ?_)
  refine lv_aload_n hx hb d_Lw_law_271 rfl (lv_at hl 3 rfl) ?_
  refine lv_iload_n hx hb d_Lw_law_272 rfl (lv_at hl 0 rfl) ?_
  refine lv_iconst (v := 3) hx hb d_Lw_law_273 (by decide) ?_
  refine lv_iadd hx hb d_Lw_law_274 ?_
  refine lv_topi (fun x0 e0 => ?_)
  obtain rfl : x0 = nI (i + 3) := e0.trans (nI_p i 3)
  refine va_sld hx hb hX hbl hbA hH.2 (vp_in_nI (by omega) (by omega)) d_Lw_law_275 ?_
  refine lv_topi (fun y3 ey3 => ?_)
  refine lv_i2l hx hb d_Lw_law_276 rfl ?_
  refine lv_bipush (v := 32) hx hb d_Lw_law_277 (by decide) ?_
  refine lv_lshl hx hb d_Lw_law_279 rfl ?_
  refine lv_aload_n hx hb d_Lw_law_280 rfl (lv_at hl 3 rfl) ?_
  refine lv_iload_n hx hb d_Lw_law_281 rfl (lv_at hl 0 rfl) ?_
  refine lv_iconst (v := 4) hx hb d_Lw_law_282 (by decide) ?_
  refine lv_iadd hx hb d_Lw_law_283 ?_
  refine lv_topi (fun x0 e0 => ?_)
  obtain rfl : x0 = nI (i + 4) := e0.trans (nI_p i 4)
  refine va_sld hx hb hX hbl hbA hH.2 (vp_in_nI (by omega) (by omega)) d_Lw_law_284 ?_
  refine lv_topi (fun y4 ey4 => ?_)
  refine lv_i2l hx hb d_Lw_law_285 rfl ?_
  refine lv_ldc2 (v := 4294967295) hx hb hown (hts _ (List.mem_cons_of_mem _ mw_2699)) d_Lw_law_286 ?_
  refine lv_land hx hb d_Lw_law_289 ?_
  refine lv_lor hx hb d_Lw_law_290 ?_
  refine lv_topl (fun q0 eq0 => ?_)
  refine lw_cv (ν := 5) (na := 3) (ci := 0) (idx := 25) (k := 0) (iv := (y_Bh_fill, b_Bh_fill, 7, (some .boolean))) (As := [.int y1, .int y2, .long q0]) (rest := []) F rfl rfl rfl mw_1071 mw_1072 mw_1073 mw_1 mw_1074 ⟨by decide +kernel, by decide +kernel, by decide +kernel⟩ (by decide) d_Lw_law_291 rfl rfl (Nat.le_of_ble_eq_true rfl) rfl (Nat.le_of_ble_eq_true rfl) (pz_fill (by omega) hw) hH hl (fun v w1 H locs hq hH => ?_)
  obtain ⟨r0, rfl, zz0, hT⟩ := hq
  refine W.eq (g2 := F0 m 294 ls [.int r0]) rfl ?_
  refine lv_aload_n hx hb d_Lw_law_294 rfl (lv_at hl 1 rfl) ?_
  refine lv_aload_n hx hb d_Lw_law_295 rfl (lv_at hl 3 rfl) ?_
  refine lv_iload_n hx hb d_Lw_law_296 rfl (lv_at hl 0 rfl) ?_
  refine lv_iconst (v := 1) hx hb d_Lw_law_297 (by decide) ?_
  refine lv_iadd hx hb d_Lw_law_298 ?_
  refine lv_topi (fun x0 e0 => ?_)
  obtain rfl : x0 = nI (i + 1) := e0.trans (nI_p i 1)
  refine va_sld hx hb hX hbl hbA hH.2 (vp_in_nI (by omega) (by omega)) d_Lw_law_299 ?_
  refine lv_topi (fun x0 e0 => ?_)
  obtain rfl : y1 = x0 := ey1.trans e0.symm
  refine lv_aload_n hx hb d_Lw_law_300 rfl (lv_at hl 3 rfl) ?_
  refine lv_iload_n hx hb d_Lw_law_301 rfl (lv_at hl 0 rfl) ?_
  refine lv_iconst (v := 2) hx hb d_Lw_law_302 (by decide) ?_
  refine lv_iadd hx hb d_Lw_law_303 ?_
  refine lv_topi (fun x0 e0 => ?_)
  obtain rfl : x0 = nI (i + 2) := e0.trans (nI_p i 2)
  refine va_sld hx hb hX hbl hbA hH.2 (vp_in_nI (by omega) (by omega)) d_Lw_law_304 ?_
  refine lv_topi (fun x0 e0 => ?_)
  obtain rfl : y2 = x0 := ey2.trans e0.symm
  refine lv_aload_n hx hb d_Lw_law_305 rfl (lv_at hl 3 rfl) ?_
  refine lv_iload_n hx hb d_Lw_law_306 rfl (lv_at hl 0 rfl) ?_
  refine lv_iconst (v := 3) hx hb d_Lw_law_307 (by decide) ?_
  refine lv_iadd hx hb d_Lw_law_308 ?_
  refine lv_topi (fun x0 e0 => ?_)
  obtain rfl : x0 = nI (i + 3) := e0.trans (nI_p i 3)
  refine va_sld hx hb hX hbl hbA hH.2 (vp_in_nI (by omega) (by omega)) d_Lw_law_309 ?_
  refine lv_topi (fun x0 e0 => ?_)
  obtain rfl : y3 = x0 := ey3.trans e0.symm
  refine lv_i2l hx hb d_Lw_law_310 rfl ?_
  refine lv_bipush (v := 32) hx hb d_Lw_law_311 (by decide) ?_
  refine lv_lshl hx hb d_Lw_law_313 rfl ?_
  refine lv_aload_n hx hb d_Lw_law_314 rfl (lv_at hl 3 rfl) ?_
  refine lv_iload_n hx hb d_Lw_law_315 rfl (lv_at hl 0 rfl) ?_
  refine lv_iconst (v := 4) hx hb d_Lw_law_316 (by decide) ?_
  refine lv_iadd hx hb d_Lw_law_317 ?_
  refine lv_topi (fun x0 e0 => ?_)
  obtain rfl : x0 = nI (i + 4) := e0.trans (nI_p i 4)
  refine va_sld hx hb hX hbl hbA hH.2 (vp_in_nI (by omega) (by omega)) d_Lw_law_318 ?_
  refine lv_topi (fun x0 e0 => ?_)
  obtain rfl : y4 = x0 := ey4.trans e0.symm
  refine lv_i2l hx hb d_Lw_law_319 rfl ?_
  refine lv_ldc2 (v := 4294967295) hx hb hown (hts _ (List.mem_cons_of_mem _ mw_2699)) d_Lw_law_320 ?_
  refine lv_land hx hb d_Lw_law_323 ?_
  refine lv_lor hx hb d_Lw_law_324 ?_
  refine lv_topl (fun x0 e0 => ?_)
  obtain rfl : q0 = x0 := eq0.trans e0.symm
  refine lw_cv (ν := 84) (na := 3) (ci := 12) (idx := 29) (k := 127) (iv := (y_Mo_fill, b_Mo_fill, 5, (some .boolean))) (As := [.int y1, .int y2, .long q0]) (rest := [.int r0]) F rfl rfl rfl mw_2440 mw_2441 mw_2442 mw_18 mw_2443 ⟨by decide +kernel, by decide +kernel, by decide +kernel⟩ (by decide) d_Lw_law_325 rfl rfl (Nat.le_of_ble_eq_true rfl) rfl (Nat.le_of_ble_eq_true rfl) hT hH hl (fun v w2 H locs hq hH => ?_)
  obtain ⟨r1, rfl, zz1, hw2, heq⟩ := hq
  refine W.eq (g2 := F0 m 328 ls [.int r1, .int r0]) rfl ?_
  refine lv_icmp_eq (tgt := 1208) hx hb d_Lw_law_328 (by decide) (fun _ => ?_) (fun h => absurd heq h)
  exact lk_nx F hH hl (kk w2 _ _ hw2)
set_option maxHeartbeats 4000000 in
set_option maxRecDepth 100000 in
theorem lk_3 {E : EV} {p : Program} {e : Env} {s : State} {m : MethodId} {below : List Frame} {meth : Method} {c : Code} (l : Launch) {b L i : Nat} {xs : Nat → Int32} {H : Heap} {locs : List Loc} {ls : Array Slot} {A : Nat → Prop} {w : MW} (F : LwF E p s m c b A) (hX : va_X b L xs s s.heap) (hbl : b < s.heap.size) (hbA : ¬ A b) (hL : L ≤ 3072) (hi : i + 6 ≤ L) (hw : LKz (100 * (i : Int)) w) (hH : HR E w A s H locs) (hl : lv_has ls 4 [(3, .int (nI i)), (2, .ref (E.ad 127)), (1, .ref (E.ad 0)), (0, .ref b)])
    (kk : ∀ (w2 : MW) (H : Heap) (locs : List Loc), LKz (100 * (i : Int) + 600) w2 → ∀ (ls : Array Slot), HR E w2 A s H locs → lv_has ls 4 [(3, .int (nI (i + 6))), (2, .ref (E.ad 127)), (1, .ref (E.ad 0)), (0, .ref b)] → W p l e room_1 s m #[Value.ref b] below meth c H locs 221 83122 (lw_Z below #[Value.ref b] s) (F0 m 18 ls [])) : W p l e room_1 s m #[Value.ref b] below meth c H locs 221 83122 (lw_Z below #[Value.ref b] s) (F0 m 333 ls []) := by
  obtain ⟨hx, hb, hml, hown, hts, hK, hG, hAs, hAc, hi2⟩ := id F
  refine lv_aload_n hx hb d_Lw_law_333 rfl (lv_at hl 2 rfl) ?_
  refine lv_aload_n hx hb d_Lw_law_334 rfl (lv_at hl 3 rfl) ?_
  refine lv_iload_n hx hb d_Lw_law_335 rfl (lv_at hl 0 rfl) ?_
  refine lv_iconst (v := 1) hx hb d_Lw_law_336 (by decide) ?_
  refine lv_iadd hx hb d_Lw_law_337 ?_
  refine lv_topi (fun x0 e0 => ?_)
  obtain rfl : x0 = nI (i + 1) := e0.trans (nI_p i 1)
  refine va_sld hx hb hX hbl hbA hH.2 (vp_in_nI (by omega) (by omega)) d_Lw_law_338 ?_
  refine lv_topi (fun y1 ey1 => ?_)
  refine lv_aload_n hx hb d_Lw_law_339 rfl (lv_at hl 3 rfl) ?_
  refine lv_iload_n hx hb d_Lw_law_340 rfl (lv_at hl 0 rfl) ?_
  refine lv_iconst (v := 2) hx hb d_Lw_law_341 (by decide) ?_
  refine lv_iadd hx hb d_Lw_law_342 ?_
  refine lv_topi (fun x0 e0 => ?_)
  obtain rfl : x0 = nI (i + 2) := e0.trans (nI_p i 2)
  refine va_sld hx hb hX hbl hbA hH.2 (vp_in_nI (by omega) (by omega)) d_Lw_law_343 ?_
  refine lv_topi (fun y2 ey2 => ?_)
  refine lw_cv (ν := 7) (na := 2) (ci := 0) (idx := 30) (k := 0) (iv := (y_Bh_may, b_Bh_may, 3, (some .boolean))) (As := [.int y1, .int y2]) (rest := []) F rfl rfl rfl mw_1137 mw_1138 mw_1139 mw_1 mw_1140 ⟨by decide +kernel, by decide +kernel, by decide +kernel⟩ (by decide) d_Lw_law_344 rfl rfl (Nat.le_of_ble_eq_true rfl) rfl (Nat.le_of_ble_eq_true rfl) (pz_may (by omega) hw) hH hl (fun v w1 H locs hq hH => ?_)
  obtain ⟨r0, rfl, zz0, hT⟩ := hq
  refine W.eq (g2 := F0 m 347 ls [.int r0]) rfl ?_
  refine lv_aload_n hx hb d_Lw_law_347 rfl (lv_at hl 1 rfl) ?_
  refine lv_aload_n hx hb d_Lw_law_348 rfl (lv_at hl 3 rfl) ?_
  refine lv_iload_n hx hb d_Lw_law_349 rfl (lv_at hl 0 rfl) ?_
  refine lv_iconst (v := 1) hx hb d_Lw_law_350 (by decide) ?_
  refine lv_iadd hx hb d_Lw_law_351 ?_
  refine lv_topi (fun x0 e0 => ?_)
  obtain rfl : x0 = nI (i + 1) := e0.trans (nI_p i 1)
  refine va_sld hx hb hX hbl hbA hH.2 (vp_in_nI (by omega) (by omega)) d_Lw_law_352 ?_
  refine lv_topi (fun x0 e0 => ?_)
  obtain rfl : y1 = x0 := ey1.trans e0.symm
  refine lv_aload_n hx hb d_Lw_law_353 rfl (lv_at hl 3 rfl) ?_
  refine lv_iload_n hx hb d_Lw_law_354 rfl (lv_at hl 0 rfl) ?_
  refine lv_iconst (v := 2) hx hb d_Lw_law_355 (by decide) ?_
  refine lv_iadd hx hb d_Lw_law_356 ?_
  refine lv_topi (fun x0 e0 => ?_)
  obtain rfl : x0 = nI (i + 2) := e0.trans (nI_p i 2)
  refine va_sld hx hb hX hbl hbA hH.2 (vp_in_nI (by omega) (by omega)) d_Lw_law_357 ?_
  refine lv_topi (fun x0 e0 => ?_)
  obtain rfl : y2 = x0 := ey2.trans e0.symm
  refine lw_cv (ν := 85) (na := 2) (ci := 12) (idx := 34) (k := 127) (iv := (y_Mo_may, b_Mo_may, 4, (some .boolean))) (As := [.int y1, .int y2]) (rest := [.int r0]) F rfl rfl rfl mw_2453 mw_2454 mw_2455 mw_18 mw_2456 ⟨by decide +kernel, by decide +kernel, by decide +kernel⟩ (by decide) d_Lw_law_358 rfl rfl (Nat.le_of_ble_eq_true rfl) rfl (Nat.le_of_ble_eq_true rfl) hT hH hl (fun v w2 H locs hq hH => ?_)
  obtain ⟨r1, rfl, zz1, hw2, heq⟩ := hq
  refine W.eq (g2 := F0 m 361 ls [.int r1, .int r0]) rfl ?_
  refine lv_icmp_eq (tgt := 1208) hx hb d_Lw_law_361 (by decide) (fun _ => ?_) (fun h => absurd heq h)
  exact lk_nx F hH hl (kk w2 _ _ hw2)
set_option maxHeartbeats 4000000 in
set_option maxRecDepth 100000 in
theorem lk_4 {E : EV} {p : Program} {e : Env} {s : State} {m : MethodId} {below : List Frame} {meth : Method} {c : Code} (l : Launch) {b L i : Nat} {xs : Nat → Int32} {H : Heap} {locs : List Loc} {ls : Array Slot} {A : Nat → Prop} {w : MW} (F : LwF E p s m c b A) (hX : va_X b L xs s s.heap) (hbl : b < s.heap.size) (hbA : ¬ A b) (hL : L ≤ 3072) (hi : i + 6 ≤ L) (hw : LKz (100 * (i : Int)) w) (hH : HR E w A s H locs) (hl : lv_has ls 4 [(3, .int (nI i)), (2, .ref (E.ad 127)), (1, .ref (E.ad 0)), (0, .ref b)])
    (kk : ∀ (w2 : MW) (H : Heap) (locs : List Loc), LKz (100 * (i : Int) + 600) w2 → ∀ (ls : Array Slot), HR E w2 A s H locs → lv_has ls 4 [(3, .int (nI (i + 6))), (2, .ref (E.ad 127)), (1, .ref (E.ad 0)), (0, .ref b)] → W p l e room_1 s m #[Value.ref b] below meth c H locs 221 83122 (lw_Z below #[Value.ref b] s) (F0 m 18 ls [])) : W p l e room_1 s m #[Value.ref b] below meth c H locs 221 83122 (lw_Z below #[Value.ref b] s) (F0 m 366 ls []) := by
  obtain ⟨hx, hb, hml, hown, hts, hK, hG, hAs, hAc, hi2⟩ := id F
  refine lv_aload_n hx hb d_Lw_law_366 rfl (lv_at hl 2 rfl) ?_
  refine lv_aload_n hx hb d_Lw_law_367 rfl (lv_at hl 3 rfl) ?_
  refine lv_iload_n hx hb d_Lw_law_368 rfl (lv_at hl 0 rfl) ?_
  refine lv_iconst (v := 1) hx hb d_Lw_law_369 (by decide) ?_
  refine lv_iadd hx hb d_Lw_law_370 ?_
  refine lv_topi (fun x0 e0 => ?_)
  obtain rfl : x0 = nI (i + 1) := e0.trans (nI_p i 1)
  refine va_sld hx hb hX hbl hbA hH.2 (vp_in_nI (by omega) (by omega)) d_Lw_law_371 ?_
  refine lv_topi (fun y1 ey1 => ?_)
  refine lv_aload_n hx hb d_Lw_law_372 rfl (lv_at hl 3 rfl) ?_
  refine lv_iload_n hx hb d_Lw_law_373 rfl (lv_at hl 0 rfl) ?_
  refine lv_iconst (v := 2) hx hb d_Lw_law_374 (by decide) ?_
  refine lv_iadd hx hb d_Lw_law_375 ?_
  refine lv_topi (fun x0 e0 => ?_)
  obtain rfl : x0 = nI (i + 2) := e0.trans (nI_p i 2)
  refine va_sld hx hb hX hbl hbA hH.2 (vp_in_nI (by omega) (by omega)) d_Lw_law_376 ?_
  refine lv_topi (fun y2 ey2 => ?_)
  refine lv_aload_n hx hb d_Lw_law_377 rfl (lv_at hl 3 rfl) ?_
  refine lv_iload_n hx hb d_Lw_law_378 rfl (lv_at hl 0 rfl) ?_
  refine lv_iconst (v := 3) hx hb d_Lw_law_379 (by decide) ?_
  refine lv_iadd hx hb d_Lw_law_380 ?_
  refine lv_topi (fun x0 e0 => ?_)
  obtain rfl : x0 = nI (i + 3) := e0.trans (nI_p i 3)
  refine va_sld hx hb hX hbl hbA hH.2 (vp_in_nI (by omega) (by omega)) d_Lw_law_381 ?_
  refine lv_topi (fun y3 ey3 => ?_)
  refine lw_cv (ν := 8) (na := 3) (ci := 0) (idx := 35) (k := 0) (iv := (y_Bh_need, b_Bh_need, 4, (some .boolean))) (As := [.int y1, .int y2, .int y3]) (rest := []) F rfl rfl rfl mw_1145 mw_1146 mw_1147 mw_1 mw_1148 ⟨by decide +kernel, by decide +kernel, by decide +kernel⟩ (by decide) d_Lw_law_382 rfl rfl (Nat.le_of_ble_eq_true rfl) rfl (Nat.le_of_ble_eq_true rfl) (pz_need (by omega) hw) hH hl (fun v w1 H locs hq hH => ?_)
  obtain ⟨r0, rfl, zz0, hT⟩ := hq
  refine W.eq (g2 := F0 m 385 ls [.int r0]) rfl ?_
  refine lv_aload_n hx hb d_Lw_law_385 rfl (lv_at hl 1 rfl) ?_
  refine lv_aload_n hx hb d_Lw_law_386 rfl (lv_at hl 3 rfl) ?_
  refine lv_iload_n hx hb d_Lw_law_387 rfl (lv_at hl 0 rfl) ?_
  refine lv_iconst (v := 1) hx hb d_Lw_law_388 (by decide) ?_
  refine lv_iadd hx hb d_Lw_law_389 ?_
  refine lv_topi (fun x0 e0 => ?_)
  obtain rfl : x0 = nI (i + 1) := e0.trans (nI_p i 1)
  refine va_sld hx hb hX hbl hbA hH.2 (vp_in_nI (by omega) (by omega)) d_Lw_law_390 ?_
  refine lv_topi (fun x0 e0 => ?_)
  obtain rfl : y1 = x0 := ey1.trans e0.symm
  refine lv_aload_n hx hb d_Lw_law_391 rfl (lv_at hl 3 rfl) ?_
  refine lv_iload_n hx hb d_Lw_law_392 rfl (lv_at hl 0 rfl) ?_
  refine lv_iconst (v := 2) hx hb d_Lw_law_393 (by decide) ?_
  refine lv_iadd hx hb d_Lw_law_394 ?_
  refine lv_topi (fun x0 e0 => ?_)
  obtain rfl : x0 = nI (i + 2) := e0.trans (nI_p i 2)
  refine va_sld hx hb hX hbl hbA hH.2 (vp_in_nI (by omega) (by omega)) d_Lw_law_395 ?_
  refine lv_topi (fun x0 e0 => ?_)
  obtain rfl : y2 = x0 := ey2.trans e0.symm
  refine lv_aload_n hx hb d_Lw_law_396 rfl (lv_at hl 3 rfl) ?_
  refine lv_iload_n hx hb d_Lw_law_397 rfl (lv_at hl 0 rfl) ?_
  refine lv_iconst (v := 3) hx hb d_Lw_law_398 (by decide) ?_
  refine lv_iadd hx hb d_Lw_law_399 ?_
  refine lv_topi (fun x0 e0 => ?_)
  obtain rfl : x0 = nI (i + 3) := e0.trans (nI_p i 3)
  refine va_sld hx hb hX hbl hbA hH.2 (vp_in_nI (by omega) (by omega)) d_Lw_law_400 ?_
  refine lv_topi (fun x0 e0 => ?_)
  obtain rfl : y3 = x0 := ey3.trans e0.symm
  refine lw_cv (ν := 86) (na := 3) (ci := 12) (idx := 39) (k := 127) (iv := (y_Mo_need, b_Mo_need, 4, (some .boolean))) (As := [.int y1, .int y2, .int y3]) (rest := [.int r0]) F rfl rfl rfl mw_2457 mw_2458 mw_2459 mw_18 mw_2460 ⟨by decide +kernel, by decide +kernel, by decide +kernel⟩ (by decide) d_Lw_law_401 rfl rfl (Nat.le_of_ble_eq_true rfl) rfl (Nat.le_of_ble_eq_true rfl) hT hH hl (fun v w2 H locs hq hH => ?_)
  obtain ⟨r1, rfl, zz1, hw2, heq⟩ := hq
  refine W.eq (g2 := F0 m 404 ls [.int r1, .int r0]) rfl ?_
  refine lv_icmp_eq (tgt := 1208) hx hb d_Lw_law_404 (by decide) (fun _ => ?_) (fun h => absurd heq h)
  exact lk_nx F hH hl (kk w2 _ _ hw2)
set_option maxHeartbeats 4000000 in
set_option maxRecDepth 100000 in
theorem lk_5 {E : EV} {p : Program} {e : Env} {s : State} {m : MethodId} {below : List Frame} {meth : Method} {c : Code} (l : Launch) {b L i : Nat} {xs : Nat → Int32} {H : Heap} {locs : List Loc} {ls : Array Slot} {A : Nat → Prop} {w : MW} (F : LwF E p s m c b A) (hX : va_X b L xs s s.heap) (hbl : b < s.heap.size) (hbA : ¬ A b) (hL : L ≤ 3072) (hi : i + 6 ≤ L) (hw : LKz (100 * (i : Int)) w) (hH : HR E w A s H locs) (hl : lv_has ls 4 [(3, .int (nI i)), (2, .ref (E.ad 127)), (1, .ref (E.ad 0)), (0, .ref b)])
    (kk : ∀ (w2 : MW) (H : Heap) (locs : List Loc), LKz (100 * (i : Int) + 600) w2 → ∀ (ls : Array Slot), HR E w2 A s H locs → lv_has ls 4 [(3, .int (nI (i + 6))), (2, .ref (E.ad 127)), (1, .ref (E.ad 0)), (0, .ref b)] → W p l e room_1 s m #[Value.ref b] below meth c H locs 221 83122 (lw_Z below #[Value.ref b] s) (F0 m 18 ls [])) : W p l e room_1 s m #[Value.ref b] below meth c H locs 221 83122 (lw_Z below #[Value.ref b] s) (F0 m 409 ls []) := by
  obtain ⟨hx, hb, hml, hown, hts, hK, hG, hAs, hAc, hi2⟩ := id F
  refine lv_aload_n hx hb d_Lw_law_409 rfl (lv_at hl 2 rfl) ?_
  refine lv_aload_n hx hb d_Lw_law_410 rfl (lv_at hl 3 rfl) ?_
  refine lv_iload_n hx hb d_Lw_law_411 rfl (lv_at hl 0 rfl) ?_
  refine lv_iconst (v := 1) hx hb d_Lw_law_412 (by decide) ?_
  refine lv_iadd hx hb d_Lw_law_413 ?_
  refine lv_topi (fun x0 e0 => ?_)
  obtain rfl : x0 = nI (i + 1) := e0.trans (nI_p i 1)
  refine va_sld hx hb hX hbl hbA hH.2 (vp_in_nI (by omega) (by omega)) d_Lw_law_414 ?_
  refine lv_topi (fun y1 ey1 => ?_)
  refine lv_aload_n hx hb d_Lw_law_415 rfl (lv_at hl 3 rfl) ?_
  refine lv_iload_n hx hb d_Lw_law_416 rfl (lv_at hl 0 rfl) ?_
  refine lv_iconst (v := 2) hx hb d_Lw_law_417 (by decide) ?_
  refine lv_iadd hx hb d_Lw_law_418 ?_
  refine lv_topi (fun x0 e0 => ?_)
  obtain rfl : x0 = nI (i + 2) := e0.trans (nI_p i 2)
  refine va_sld hx hb hX hbl hbA hH.2 (vp_in_nI (by omega) (by omega)) d_Lw_law_419 ?_
  refine lv_topi (fun y2 ey2 => ?_)
  refine lw_cv (ν := 9) (na := 2) (ci := 0) (idx := 40) (k := 0) (iv := (y_Bh_lasts, b_Bh_lasts, 3, (some .boolean))) (As := [.int y1, .int y2]) (rest := []) F rfl rfl rfl mw_1149 mw_1150 mw_1151 mw_1 mw_1152 ⟨by decide +kernel, by decide +kernel, by decide +kernel⟩ (by decide) d_Lw_law_420 rfl rfl (Nat.le_of_ble_eq_true rfl) rfl (Nat.le_of_ble_eq_true rfl) (pz_lasts (by omega) hw) hH hl (fun v w1 H locs hq hH => ?_)
  obtain ⟨r0, rfl, zz0, hT⟩ := hq
  refine W.eq (g2 := F0 m 423 ls [.int r0]) rfl ?_
  refine lv_aload_n hx hb d_Lw_law_423 rfl (lv_at hl 1 rfl) ?_
  refine lv_aload_n hx hb d_Lw_law_424 rfl (lv_at hl 3 rfl) ?_
  refine lv_iload_n hx hb d_Lw_law_425 rfl (lv_at hl 0 rfl) ?_
  refine lv_iconst (v := 1) hx hb d_Lw_law_426 (by decide) ?_
  refine lv_iadd hx hb d_Lw_law_427 ?_
  refine lv_topi (fun x0 e0 => ?_)
  obtain rfl : x0 = nI (i + 1) := e0.trans (nI_p i 1)
  refine va_sld hx hb hX hbl hbA hH.2 (vp_in_nI (by omega) (by omega)) d_Lw_law_428 ?_
  refine lv_topi (fun x0 e0 => ?_)
  obtain rfl : y1 = x0 := ey1.trans e0.symm
  refine lv_aload_n hx hb d_Lw_law_429 rfl (lv_at hl 3 rfl) ?_
  refine lv_iload_n hx hb d_Lw_law_430 rfl (lv_at hl 0 rfl) ?_
  refine lv_iconst (v := 2) hx hb d_Lw_law_431 (by decide) ?_
  refine lv_iadd hx hb d_Lw_law_432 ?_
  refine lv_topi (fun x0 e0 => ?_)
  obtain rfl : x0 = nI (i + 2) := e0.trans (nI_p i 2)
  refine va_sld hx hb hX hbl hbA hH.2 (vp_in_nI (by omega) (by omega)) d_Lw_law_433 ?_
  refine lv_topi (fun x0 e0 => ?_)
  obtain rfl : y2 = x0 := ey2.trans e0.symm
  refine lw_cv (ν := 87) (na := 2) (ci := 12) (idx := 43) (k := 127) (iv := (y_Mo_lasts, b_Mo_lasts, 3, (some .boolean))) (As := [.int y1, .int y2]) (rest := [.int r0]) F rfl rfl rfl mw_2461 mw_2462 mw_2463 mw_18 mw_2464 ⟨by decide +kernel, by decide +kernel, by decide +kernel⟩ (by decide) d_Lw_law_434 rfl rfl (Nat.le_of_ble_eq_true rfl) rfl (Nat.le_of_ble_eq_true rfl) hT hH hl (fun v w2 H locs hq hH => ?_)
  obtain ⟨r1, rfl, zz1, hw2, heq⟩ := hq
  refine W.eq (g2 := F0 m 437 ls [.int r1, .int r0]) rfl ?_
  refine lv_icmp_eq (tgt := 1208) hx hb d_Lw_law_437 (by decide) (fun _ => ?_) (fun h => absurd heq h)
  exact lk_nx F hH hl (kk w2 _ _ hw2)
set_option maxHeartbeats 4000000 in
set_option maxRecDepth 100000 in
theorem lk_6 {E : EV} {p : Program} {e : Env} {s : State} {m : MethodId} {below : List Frame} {meth : Method} {c : Code} (l : Launch) {b L i : Nat} {xs : Nat → Int32} {H : Heap} {locs : List Loc} {ls : Array Slot} {A : Nat → Prop} {w : MW} (F : LwF E p s m c b A) (hX : va_X b L xs s s.heap) (hbl : b < s.heap.size) (hbA : ¬ A b) (hL : L ≤ 3072) (hi : i + 6 ≤ L) (hw : LKz (100 * (i : Int)) w) (hH : HR E w A s H locs) (hl : lv_has ls 4 [(3, .int (nI i)), (2, .ref (E.ad 127)), (1, .ref (E.ad 0)), (0, .ref b)])
    (kk : ∀ (w2 : MW) (H : Heap) (locs : List Loc), LKz (100 * (i : Int) + 600) w2 → ∀ (ls : Array Slot), HR E w2 A s H locs → lv_has ls 4 [(3, .int (nI (i + 6))), (2, .ref (E.ad 127)), (1, .ref (E.ad 0)), (0, .ref b)] → W p l e room_1 s m #[Value.ref b] below meth c H locs 221 83122 (lw_Z below #[Value.ref b] s) (F0 m 18 ls [])) : W p l e room_1 s m #[Value.ref b] below meth c H locs 221 83122 (lw_Z below #[Value.ref b] s) (F0 m 442 ls []) := by
  obtain ⟨hx, hb, hml, hown, hts, hK, hG, hAs, hAc, hi2⟩ := id F
  refine lv_aload_n hx hb d_Lw_law_442 rfl (lv_at hl 2 rfl) ?_
  refine lv_aload_n hx hb d_Lw_law_443 rfl (lv_at hl 3 rfl) ?_
  refine lv_iload_n hx hb d_Lw_law_444 rfl (lv_at hl 0 rfl) ?_
  refine lv_iconst (v := 1) hx hb d_Lw_law_445 (by decide) ?_
  refine lv_iadd hx hb d_Lw_law_446 ?_
  refine lv_topi (fun x0 e0 => ?_)
  obtain rfl : x0 = nI (i + 1) := e0.trans (nI_p i 1)
  refine va_sld hx hb hX hbl hbA hH.2 (vp_in_nI (by omega) (by omega)) d_Lw_law_447 ?_
  refine lv_topi (fun y1 ey1 => ?_)
  refine lv_aload_n hx hb d_Lw_law_448 rfl (lv_at hl 3 rfl) ?_
  refine lv_iload_n hx hb d_Lw_law_449 rfl (lv_at hl 0 rfl) ?_
  refine lv_iconst (v := 2) hx hb d_Lw_law_450 (by decide) ?_
  refine lv_iadd hx hb d_Lw_law_451 ?_
  refine lv_topi (fun x0 e0 => ?_)
  obtain rfl : x0 = nI (i + 2) := e0.trans (nI_p i 2)
  refine va_sld hx hb hX hbl hbA hH.2 (vp_in_nI (by omega) (by omega)) d_Lw_law_452 ?_
  refine lv_topi (fun y2 ey2 => ?_)
  refine lv_aload_n hx hb d_Lw_law_453 rfl (lv_at hl 3 rfl) ?_
  refine lv_iload_n hx hb d_Lw_law_454 rfl (lv_at hl 0 rfl) ?_
  refine lv_iconst (v := 3) hx hb d_Lw_law_455 (by decide) ?_
  refine lv_iadd hx hb d_Lw_law_456 ?_
  refine lv_topi (fun x0 e0 => ?_)
  obtain rfl : x0 = nI (i + 3) := e0.trans (nI_p i 3)
  refine va_sld hx hb hX hbl hbA hH.2 (vp_in_nI (by omega) (by omega)) d_Lw_law_457 ?_
  refine lv_topi (fun y3 ey3 => ?_)
  refine lw_cv (ν := 10) (na := 3) (ci := 0) (idx := 44) (k := 0) (iv := (y_Bh_sense, b_Bh_sense, 4, (some .boolean))) (As := [.int y1, .int y2, .int y3]) (rest := []) F rfl rfl rfl mw_1154 mw_1155 mw_1156 mw_1 mw_1157 ⟨by decide +kernel, by decide +kernel, by decide +kernel⟩ (by decide) d_Lw_law_458 rfl rfl (Nat.le_of_ble_eq_true rfl) rfl (Nat.le_of_ble_eq_true rfl) (pz_sense (by omega) hw) hH hl (fun v w1 H locs hq hH => ?_)
  obtain ⟨r0, rfl, zz0, hT⟩ := hq
  refine W.eq (g2 := F0 m 461 ls [.int r0]) rfl ?_
  refine lv_aload_n hx hb d_Lw_law_461 rfl (lv_at hl 1 rfl) ?_
  refine lv_aload_n hx hb d_Lw_law_462 rfl (lv_at hl 3 rfl) ?_
  refine lv_iload_n hx hb d_Lw_law_463 rfl (lv_at hl 0 rfl) ?_
  refine lv_iconst (v := 1) hx hb d_Lw_law_464 (by decide) ?_
  refine lv_iadd hx hb d_Lw_law_465 ?_
  refine lv_topi (fun x0 e0 => ?_)
  obtain rfl : x0 = nI (i + 1) := e0.trans (nI_p i 1)
  refine va_sld hx hb hX hbl hbA hH.2 (vp_in_nI (by omega) (by omega)) d_Lw_law_466 ?_
  refine lv_topi (fun x0 e0 => ?_)
  obtain rfl : y1 = x0 := ey1.trans e0.symm
  refine lv_aload_n hx hb d_Lw_law_467 rfl (lv_at hl 3 rfl) ?_
  refine lv_iload_n hx hb d_Lw_law_468 rfl (lv_at hl 0 rfl) ?_
  refine lv_iconst (v := 2) hx hb d_Lw_law_469 (by decide) ?_
  refine lv_iadd hx hb d_Lw_law_470 ?_
  refine lv_topi (fun x0 e0 => ?_)
  obtain rfl : x0 = nI (i + 2) := e0.trans (nI_p i 2)
  refine va_sld hx hb hX hbl hbA hH.2 (vp_in_nI (by omega) (by omega)) d_Lw_law_471 ?_
  refine lv_topi (fun x0 e0 => ?_)
  obtain rfl : y2 = x0 := ey2.trans e0.symm
  refine lv_aload_n hx hb d_Lw_law_472 rfl (lv_at hl 3 rfl) ?_
  refine lv_iload_n hx hb d_Lw_law_473 rfl (lv_at hl 0 rfl) ?_
  refine lv_iconst (v := 3) hx hb d_Lw_law_474 (by decide) ?_
  refine lv_iadd hx hb d_Lw_law_475 ?_
  refine lv_topi (fun x0 e0 => ?_)
  obtain rfl : x0 = nI (i + 3) := e0.trans (nI_p i 3)
  refine va_sld hx hb hX hbl hbA hH.2 (vp_in_nI (by omega) (by omega)) d_Lw_law_476 ?_
  refine lv_topi (fun x0 e0 => ?_)
  obtain rfl : y3 = x0 := ey3.trans e0.symm
  refine lw_cv (ν := 93) (na := 3) (ci := 12) (idx := 47) (k := 127) (iv := (y_Mo_sense, b_Mo_sense, 4, (some .boolean))) (As := [.int y1, .int y2, .int y3]) (rest := [.int r0]) F rfl rfl rfl mw_2525 mw_2526 mw_2527 mw_18 mw_2528 ⟨by decide +kernel, by decide +kernel, by decide +kernel⟩ (by decide) d_Lw_law_477 rfl rfl (Nat.le_of_ble_eq_true rfl) rfl (Nat.le_of_ble_eq_true rfl) hT hH hl (fun v w2 H locs hq hH => ?_)
  obtain ⟨r1, rfl, zz1, hw2, heq⟩ := hq
  refine W.eq (g2 := F0 m 480 ls [.int r1, .int r0]) rfl ?_
  refine lv_icmp_eq (tgt := 1208) hx hb d_Lw_law_480 (by decide) (fun _ => ?_) (fun h => absurd heq h)
  exact lk_nx F hH hl (kk w2 _ _ hw2)
set_option maxHeartbeats 4000000 in
set_option maxRecDepth 100000 in
theorem lk_7 {E : EV} {p : Program} {e : Env} {s : State} {m : MethodId} {below : List Frame} {meth : Method} {c : Code} (l : Launch) {b L i : Nat} {xs : Nat → Int32} {H : Heap} {locs : List Loc} {ls : Array Slot} {A : Nat → Prop} {w : MW} (F : LwF E p s m c b A) (hX : va_X b L xs s s.heap) (hbl : b < s.heap.size) (hbA : ¬ A b) (hL : L ≤ 3072) (hi : i + 6 ≤ L) (hw : LKz (100 * (i : Int)) w) (hH : HR E w A s H locs) (hl : lv_has ls 4 [(3, .int (nI i)), (2, .ref (E.ad 127)), (1, .ref (E.ad 0)), (0, .ref b)])
    (kk : ∀ (w2 : MW) (H : Heap) (locs : List Loc), LKz (100 * (i : Int) + 600) w2 → ∀ (ls : Array Slot), HR E w2 A s H locs → lv_has ls 4 [(3, .int (nI (i + 6))), (2, .ref (E.ad 127)), (1, .ref (E.ad 0)), (0, .ref b)] → W p l e room_1 s m #[Value.ref b] below meth c H locs 221 83122 (lw_Z below #[Value.ref b] s) (F0 m 18 ls [])) : W p l e room_1 s m #[Value.ref b] below meth c H locs 221 83122 (lw_Z below #[Value.ref b] s) (F0 m 485 ls []) := by
  obtain ⟨hx, hb, hml, hown, hts, hK, hG, hAs, hAc, hi2⟩ := id F
  refine lv_aload_n hx hb d_Lw_law_485 rfl (lv_at hl 2 rfl) ?_
  refine lv_aload_n hx hb d_Lw_law_486 rfl (lv_at hl 3 rfl) ?_
  refine lv_iload_n hx hb d_Lw_law_487 rfl (lv_at hl 0 rfl) ?_
  refine lv_iconst (v := 1) hx hb d_Lw_law_488 (by decide) ?_
  refine lv_iadd hx hb d_Lw_law_489 ?_
  refine lv_topi (fun x0 e0 => ?_)
  obtain rfl : x0 = nI (i + 1) := e0.trans (nI_p i 1)
  refine va_sld hx hb hX hbl hbA hH.2 (vp_in_nI (by omega) (by omega)) d_Lw_law_490 ?_
  refine lv_topi (fun y1 ey1 => ?_)
  refine lv_aload_n hx hb d_Lw_law_491 rfl (lv_at hl 3 rfl) ?_
  refine lv_iload_n hx hb d_Lw_law_492 rfl (lv_at hl 0 rfl) ?_
  refine lv_iconst (v := 2) hx hb d_Lw_law_493 (by decide) ?_
  refine lv_iadd hx hb d_Lw_law_494 ?_
  refine lv_topi (fun x0 e0 => ?_)
  obtain rfl : x0 = nI (i + 2) := e0.trans (nI_p i 2)
  refine va_sld hx hb hX hbl hbA hH.2 (vp_in_nI (by omega) (by omega)) d_Lw_law_495 ?_
  refine lv_topi (fun y2 ey2 => ?_)
  refine lv_aload_n hx hb d_Lw_law_496 rfl (lv_at hl 3 rfl) ?_
  refine lv_iload_n hx hb d_Lw_law_497 rfl (lv_at hl 0 rfl) ?_
  refine lv_iconst (v := 3) hx hb d_Lw_law_498 (by decide) ?_
  refine lv_iadd hx hb d_Lw_law_499 ?_
  refine lv_topi (fun x0 e0 => ?_)
  obtain rfl : x0 = nI (i + 3) := e0.trans (nI_p i 3)
  refine va_sld hx hb hX hbl hbA hH.2 (vp_in_nI (by omega) (by omega)) d_Lw_law_500 ?_
  refine lv_topi (fun y3 ey3 => ?_)
  refine lv_aload_n hx hb d_Lw_law_501 rfl (lv_at hl 3 rfl) ?_
  refine lv_iload_n hx hb d_Lw_law_502 rfl (lv_at hl 0 rfl) ?_
  refine lv_iconst (v := 4) hx hb d_Lw_law_503 (by decide) ?_
  refine lv_iadd hx hb d_Lw_law_504 ?_
  refine lv_topi (fun x0 e0 => ?_)
  obtain rfl : x0 = nI (i + 4) := e0.trans (nI_p i 4)
  refine va_sld hx hb hX hbl hbA hH.2 (vp_in_nI (by omega) (by omega)) d_Lw_law_505 ?_
  refine lv_topi (fun y4 ey4 => ?_)
  refine lv_i2l hx hb d_Lw_law_506 rfl ?_
  refine lv_bipush (v := 32) hx hb d_Lw_law_507 (by decide) ?_
  refine lv_lshl hx hb d_Lw_law_509 rfl ?_
  refine lv_aload_n hx hb d_Lw_law_510 rfl (lv_at hl 3 rfl) ?_
  refine lv_iload_n hx hb d_Lw_law_511 rfl (lv_at hl 0 rfl) ?_
  refine lv_iconst (v := 5) hx hb d_Lw_law_512 (by decide) ?_
  refine lv_iadd hx hb d_Lw_law_513 ?_
  refine lv_topi (fun x0 e0 => ?_)
  obtain rfl : x0 = nI (i + 5) := e0.trans (nI_p i 5)
  refine va_sld hx hb hX hbl hbA hH.2 (vp_in_nI (by omega) (by omega)) d_Lw_law_514 ?_
  refine lv_topi (fun y5 ey5 => ?_)
  refine lv_i2l hx hb d_Lw_law_515 rfl ?_
  refine lv_ldc2 (v := 4294967295) hx hb hown (hts _ (List.mem_cons_of_mem _ mw_2699)) d_Lw_law_516 ?_
  refine lv_land hx hb d_Lw_law_519 ?_
  refine lv_lor hx hb d_Lw_law_520 ?_
  refine lv_topl (fun q0 eq0 => ?_)
  refine lw_cv (ν := 11) (na := 4) (ci := 0) (idx := 48) (k := 0) (iv := (y_Bh_watch, b_Bh_watch, 6, (some .boolean))) (As := [.int y1, .int y2, .int y3, .long q0]) (rest := []) F rfl rfl rfl mw_1162 mw_1163 mw_1164 mw_1 mw_1165 ⟨by decide +kernel, by decide +kernel, by decide +kernel⟩ (by decide) d_Lw_law_521 rfl rfl (Nat.le_of_ble_eq_true rfl) rfl (Nat.le_of_ble_eq_true rfl) (pz_watch (by omega) hw) hH hl (fun v w1 H locs hq hH => ?_)
  obtain ⟨r0, rfl, zz0, hT⟩ := hq
  refine W.eq (g2 := F0 m 524 ls [.int r0]) rfl ?_
  refine lv_aload_n hx hb d_Lw_law_524 rfl (lv_at hl 1 rfl) ?_
  refine lv_aload_n hx hb d_Lw_law_525 rfl (lv_at hl 3 rfl) ?_
  refine lv_iload_n hx hb d_Lw_law_526 rfl (lv_at hl 0 rfl) ?_
  refine lv_iconst (v := 1) hx hb d_Lw_law_527 (by decide) ?_
  refine lv_iadd hx hb d_Lw_law_528 ?_
  refine lv_topi (fun x0 e0 => ?_)
  obtain rfl : x0 = nI (i + 1) := e0.trans (nI_p i 1)
  refine va_sld hx hb hX hbl hbA hH.2 (vp_in_nI (by omega) (by omega)) d_Lw_law_529 ?_
  refine lv_topi (fun x0 e0 => ?_)
  obtain rfl : y1 = x0 := ey1.trans e0.symm
  refine lv_aload_n hx hb d_Lw_law_530 rfl (lv_at hl 3 rfl) ?_
  refine lv_iload_n hx hb d_Lw_law_531 rfl (lv_at hl 0 rfl) ?_
  refine lv_iconst (v := 2) hx hb d_Lw_law_532 (by decide) ?_
  refine lv_iadd hx hb d_Lw_law_533 ?_
  refine lv_topi (fun x0 e0 => ?_)
  obtain rfl : x0 = nI (i + 2) := e0.trans (nI_p i 2)
  refine va_sld hx hb hX hbl hbA hH.2 (vp_in_nI (by omega) (by omega)) d_Lw_law_534 ?_
  refine lv_topi (fun x0 e0 => ?_)
  obtain rfl : y2 = x0 := ey2.trans e0.symm
  refine lv_aload_n hx hb d_Lw_law_535 rfl (lv_at hl 3 rfl) ?_
  refine lv_iload_n hx hb d_Lw_law_536 rfl (lv_at hl 0 rfl) ?_
  refine lv_iconst (v := 3) hx hb d_Lw_law_537 (by decide) ?_
  refine lv_iadd hx hb d_Lw_law_538 ?_
  refine lv_topi (fun x0 e0 => ?_)
  obtain rfl : x0 = nI (i + 3) := e0.trans (nI_p i 3)
  refine va_sld hx hb hX hbl hbA hH.2 (vp_in_nI (by omega) (by omega)) d_Lw_law_539 ?_
  refine lv_topi (fun x0 e0 => ?_)
  obtain rfl : y3 = x0 := ey3.trans e0.symm
  refine lv_aload_n hx hb d_Lw_law_540 rfl (lv_at hl 3 rfl) ?_
  refine lv_iload_n hx hb d_Lw_law_541 rfl (lv_at hl 0 rfl) ?_
  refine lv_iconst (v := 4) hx hb d_Lw_law_542 (by decide) ?_
  refine lv_iadd hx hb d_Lw_law_543 ?_
  refine lv_topi (fun x0 e0 => ?_)
  obtain rfl : x0 = nI (i + 4) := e0.trans (nI_p i 4)
  refine va_sld hx hb hX hbl hbA hH.2 (vp_in_nI (by omega) (by omega)) d_Lw_law_544 ?_
  refine lv_topi (fun x0 e0 => ?_)
  obtain rfl : y4 = x0 := ey4.trans e0.symm
  refine lv_i2l hx hb d_Lw_law_545 rfl ?_
  refine lv_bipush (v := 32) hx hb d_Lw_law_546 (by decide) ?_
  refine lv_lshl hx hb d_Lw_law_548 rfl ?_
  refine lv_aload_n hx hb d_Lw_law_549 rfl (lv_at hl 3 rfl) ?_
  refine lv_iload_n hx hb d_Lw_law_550 rfl (lv_at hl 0 rfl) ?_
  refine lv_iconst (v := 5) hx hb d_Lw_law_551 (by decide) ?_
  refine lv_iadd hx hb d_Lw_law_552 ?_
  refine lv_topi (fun x0 e0 => ?_)
  obtain rfl : x0 = nI (i + 5) := e0.trans (nI_p i 5)
  refine va_sld hx hb hX hbl hbA hH.2 (vp_in_nI (by omega) (by omega)) d_Lw_law_553 ?_
  refine lv_topi (fun x0 e0 => ?_)
  obtain rfl : y5 = x0 := ey5.trans e0.symm
  refine lv_i2l hx hb d_Lw_law_554 rfl ?_
  refine lv_ldc2 (v := 4294967295) hx hb hown (hts _ (List.mem_cons_of_mem _ mw_2699)) d_Lw_law_555 ?_
  refine lv_land hx hb d_Lw_law_558 ?_
  refine lv_lor hx hb d_Lw_law_559 ?_
  refine lv_topl (fun x0 e0 => ?_)
  obtain rfl : q0 = x0 := eq0.trans e0.symm
  refine lw_cv (ν := 94) (na := 4) (ci := 12) (idx := 52) (k := 127) (iv := (y_Mo_watch, b_Mo_watch, 6, (some .boolean))) (As := [.int y1, .int y2, .int y3, .long q0]) (rest := [.int r0]) F rfl rfl rfl mw_2533 mw_2534 mw_2535 mw_18 mw_2536 ⟨by decide +kernel, by decide +kernel, by decide +kernel⟩ (by decide) d_Lw_law_560 rfl rfl (Nat.le_of_ble_eq_true rfl) rfl (Nat.le_of_ble_eq_true rfl) hT hH hl (fun v w2 H locs hq hH => ?_)
  obtain ⟨r1, rfl, zz1, hw2, heq⟩ := hq
  refine W.eq (g2 := F0 m 563 ls [.int r1, .int r0]) rfl ?_
  refine lv_icmp_eq (tgt := 1208) hx hb d_Lw_law_563 (by decide) (fun _ => ?_) (fun h => absurd heq h)
  exact lk_nx F hH hl (kk w2 _ _ hw2)
set_option maxHeartbeats 4000000 in
set_option maxRecDepth 100000 in
theorem lk_8 {E : EV} {p : Program} {e : Env} {s : State} {m : MethodId} {below : List Frame} {meth : Method} {c : Code} (l : Launch) {b L i : Nat} {xs : Nat → Int32} {H : Heap} {locs : List Loc} {ls : Array Slot} {A : Nat → Prop} {w : MW} (F : LwF E p s m c b A) (hX : va_X b L xs s s.heap) (hbl : b < s.heap.size) (hbA : ¬ A b) (hL : L ≤ 3072) (hi : i + 6 ≤ L) (hw : LKz (100 * (i : Int)) w) (hH : HR E w A s H locs) (hl : lv_has ls 4 [(3, .int (nI i)), (2, .ref (E.ad 127)), (1, .ref (E.ad 0)), (0, .ref b)])
    (kk : ∀ (w2 : MW) (H : Heap) (locs : List Loc), LKz (100 * (i : Int) + 600) w2 → ∀ (ls : Array Slot), HR E w2 A s H locs → lv_has ls 4 [(3, .int (nI (i + 6))), (2, .ref (E.ad 127)), (1, .ref (E.ad 0)), (0, .ref b)] → W p l e room_1 s m #[Value.ref b] below meth c H locs 221 83122 (lw_Z below #[Value.ref b] s) (F0 m 18 ls [])) : W p l e room_1 s m #[Value.ref b] below meth c H locs 221 83122 (lw_Z below #[Value.ref b] s) (F0 m 568 ls []) := by
  obtain ⟨hx, hb, hml, hown, hts, hK, hG, hAs, hAc, hi2⟩ := id F
  refine lv_aload_n hx hb d_Lw_law_568 rfl (lv_at hl 2 rfl) ?_
  refine lv_aload_n hx hb d_Lw_law_569 rfl (lv_at hl 3 rfl) ?_
  refine lv_iload_n hx hb d_Lw_law_570 rfl (lv_at hl 0 rfl) ?_
  refine lv_iconst (v := 1) hx hb d_Lw_law_571 (by decide) ?_
  refine lv_iadd hx hb d_Lw_law_572 ?_
  refine lv_topi (fun x0 e0 => ?_)
  obtain rfl : x0 = nI (i + 1) := e0.trans (nI_p i 1)
  refine va_sld hx hb hX hbl hbA hH.2 (vp_in_nI (by omega) (by omega)) d_Lw_law_573 ?_
  refine lv_topi (fun y1 ey1 => ?_)
  refine lv_aload_n hx hb d_Lw_law_574 rfl (lv_at hl 3 rfl) ?_
  refine lv_iload_n hx hb d_Lw_law_575 rfl (lv_at hl 0 rfl) ?_
  refine lv_iconst (v := 2) hx hb d_Lw_law_576 (by decide) ?_
  refine lv_iadd hx hb d_Lw_law_577 ?_
  refine lv_topi (fun x0 e0 => ?_)
  obtain rfl : x0 = nI (i + 2) := e0.trans (nI_p i 2)
  refine va_sld hx hb hX hbl hbA hH.2 (vp_in_nI (by omega) (by omega)) d_Lw_law_578 ?_
  refine lv_topi (fun y2 ey2 => ?_)
  refine lv_i2l hx hb d_Lw_law_579 rfl ?_
  refine lv_bipush (v := 32) hx hb d_Lw_law_580 (by decide) ?_
  refine lv_lshl hx hb d_Lw_law_582 rfl ?_
  refine lv_aload_n hx hb d_Lw_law_583 rfl (lv_at hl 3 rfl) ?_
  refine lv_iload_n hx hb d_Lw_law_584 rfl (lv_at hl 0 rfl) ?_
  refine lv_iconst (v := 3) hx hb d_Lw_law_585 (by decide) ?_
  refine lv_iadd hx hb d_Lw_law_586 ?_
  refine lv_topi (fun x0 e0 => ?_)
  obtain rfl : x0 = nI (i + 3) := e0.trans (nI_p i 3)
  refine va_sld hx hb hX hbl hbA hH.2 (vp_in_nI (by omega) (by omega)) d_Lw_law_587 ?_
  refine lv_topi (fun y3 ey3 => ?_)
  refine lv_i2l hx hb d_Lw_law_588 rfl ?_
  refine lv_ldc2 (v := 4294967295) hx hb hown (hts _ (List.mem_cons_of_mem _ mw_2699)) d_Lw_law_589 ?_
  refine lv_land hx hb d_Lw_law_592 ?_
  refine lv_lor hx hb d_Lw_law_593 ?_
  refine lv_topl (fun q0 eq0 => ?_)
  refine lw_cv (ν := 12) (na := 2) (ci := 0) (idx := 53) (k := 0) (iv := (y_Bh_signal, b_Bh_signal, 4, (some .boolean))) (As := [.int y1, .long q0]) (rest := []) F rfl rfl rfl mw_1166 mw_1167 mw_1168 mw_1 mw_1169 ⟨by decide +kernel, by decide +kernel, by decide +kernel⟩ (by decide) d_Lw_law_594 rfl rfl (Nat.le_of_ble_eq_true rfl) rfl (Nat.le_of_ble_eq_true rfl) (pz_signal (by omega) hw) hH hl (fun v w1 H locs hq hH => ?_)
  obtain ⟨r0, rfl, zz0, hT⟩ := hq
  refine W.eq (g2 := F0 m 597 ls [.int r0]) rfl ?_
  refine lv_aload_n hx hb d_Lw_law_597 rfl (lv_at hl 1 rfl) ?_
  refine lv_aload_n hx hb d_Lw_law_598 rfl (lv_at hl 3 rfl) ?_
  refine lv_iload_n hx hb d_Lw_law_599 rfl (lv_at hl 0 rfl) ?_
  refine lv_iconst (v := 1) hx hb d_Lw_law_600 (by decide) ?_
  refine lv_iadd hx hb d_Lw_law_601 ?_
  refine lv_topi (fun x0 e0 => ?_)
  obtain rfl : x0 = nI (i + 1) := e0.trans (nI_p i 1)
  refine va_sld hx hb hX hbl hbA hH.2 (vp_in_nI (by omega) (by omega)) d_Lw_law_602 ?_
  refine lv_topi (fun x0 e0 => ?_)
  obtain rfl : y1 = x0 := ey1.trans e0.symm
  refine lv_aload_n hx hb d_Lw_law_603 rfl (lv_at hl 3 rfl) ?_
  refine lv_iload_n hx hb d_Lw_law_604 rfl (lv_at hl 0 rfl) ?_
  refine lv_iconst (v := 2) hx hb d_Lw_law_605 (by decide) ?_
  refine lv_iadd hx hb d_Lw_law_606 ?_
  refine lv_topi (fun x0 e0 => ?_)
  obtain rfl : x0 = nI (i + 2) := e0.trans (nI_p i 2)
  refine va_sld hx hb hX hbl hbA hH.2 (vp_in_nI (by omega) (by omega)) d_Lw_law_607 ?_
  refine lv_topi (fun x0 e0 => ?_)
  obtain rfl : y2 = x0 := ey2.trans e0.symm
  refine lv_i2l hx hb d_Lw_law_608 rfl ?_
  refine lv_bipush (v := 32) hx hb d_Lw_law_609 (by decide) ?_
  refine lv_lshl hx hb d_Lw_law_611 rfl ?_
  refine lv_aload_n hx hb d_Lw_law_612 rfl (lv_at hl 3 rfl) ?_
  refine lv_iload_n hx hb d_Lw_law_613 rfl (lv_at hl 0 rfl) ?_
  refine lv_iconst (v := 3) hx hb d_Lw_law_614 (by decide) ?_
  refine lv_iadd hx hb d_Lw_law_615 ?_
  refine lv_topi (fun x0 e0 => ?_)
  obtain rfl : x0 = nI (i + 3) := e0.trans (nI_p i 3)
  refine va_sld hx hb hX hbl hbA hH.2 (vp_in_nI (by omega) (by omega)) d_Lw_law_616 ?_
  refine lv_topi (fun x0 e0 => ?_)
  obtain rfl : y3 = x0 := ey3.trans e0.symm
  refine lv_i2l hx hb d_Lw_law_617 rfl ?_
  refine lv_ldc2 (v := 4294967295) hx hb hown (hts _ (List.mem_cons_of_mem _ mw_2699)) d_Lw_law_618 ?_
  refine lv_land hx hb d_Lw_law_621 ?_
  refine lv_lor hx hb d_Lw_law_622 ?_
  refine lv_topl (fun x0 e0 => ?_)
  obtain rfl : q0 = x0 := eq0.trans e0.symm
  refine lw_cv (ν := 95) (na := 2) (ci := 12) (idx := 57) (k := 127) (iv := (y_Mo_signal, b_Mo_signal, 4, (some .boolean))) (As := [.int y1, .long q0]) (rest := [.int r0]) F rfl rfl rfl mw_2537 mw_2538 mw_2539 mw_18 mw_2540 ⟨by decide +kernel, by decide +kernel, by decide +kernel⟩ (by decide) d_Lw_law_623 rfl rfl (Nat.le_of_ble_eq_true rfl) rfl (Nat.le_of_ble_eq_true rfl) hT hH hl (fun v w2 H locs hq hH => ?_)
  obtain ⟨r1, rfl, zz1, hw2, heq⟩ := hq
  refine W.eq (g2 := F0 m 626 ls [.int r1, .int r0]) rfl ?_
  refine lv_icmp_eq (tgt := 1208) hx hb d_Lw_law_626 (by decide) (fun _ => ?_) (fun h => absurd heq h)
  exact lk_nx F hH hl (kk w2 _ _ hw2)
set_option maxHeartbeats 4000000 in
set_option maxRecDepth 100000 in
theorem lk_9 {E : EV} {p : Program} {e : Env} {s : State} {m : MethodId} {below : List Frame} {meth : Method} {c : Code} (l : Launch) {b L i : Nat} {xs : Nat → Int32} {H : Heap} {locs : List Loc} {ls : Array Slot} {A : Nat → Prop} {w : MW} (F : LwF E p s m c b A) (hX : va_X b L xs s s.heap) (hbl : b < s.heap.size) (hbA : ¬ A b) (hL : L ≤ 3072) (hi : i + 6 ≤ L) (hw : LKz (100 * (i : Int)) w) (hH : HR E w A s H locs) (hl : lv_has ls 4 [(3, .int (nI i)), (2, .ref (E.ad 127)), (1, .ref (E.ad 0)), (0, .ref b)])
    (kk : ∀ (w2 : MW) (H : Heap) (locs : List Loc), LKz (100 * (i : Int) + 600) w2 → ∀ (ls : Array Slot), HR E w2 A s H locs → lv_has ls 4 [(3, .int (nI (i + 6))), (2, .ref (E.ad 127)), (1, .ref (E.ad 0)), (0, .ref b)] → W p l e room_1 s m #[Value.ref b] below meth c H locs 221 83122 (lw_Z below #[Value.ref b] s) (F0 m 18 ls [])) : W p l e room_1 s m #[Value.ref b] below meth c H locs 221 83122 (lw_Z below #[Value.ref b] s) (F0 m 631 ls []) := by
  obtain ⟨hx, hb, hml, hown, hts, hK, hG, hAs, hAc, hi2⟩ := id F
  refine lv_aload_n hx hb d_Lw_law_631 rfl (lv_at hl 2 rfl) ?_
  refine lv_aload_n hx hb d_Lw_law_632 rfl (lv_at hl 3 rfl) ?_
  refine lv_iload_n hx hb d_Lw_law_633 rfl (lv_at hl 0 rfl) ?_
  refine lv_iconst (v := 1) hx hb d_Lw_law_634 (by decide) ?_
  refine lv_iadd hx hb d_Lw_law_635 ?_
  refine lv_topi (fun x0 e0 => ?_)
  obtain rfl : x0 = nI (i + 1) := e0.trans (nI_p i 1)
  refine va_sld hx hb hX hbl hbA hH.2 (vp_in_nI (by omega) (by omega)) d_Lw_law_636 ?_
  refine lv_topi (fun y1 ey1 => ?_)
  refine lv_aload_n hx hb d_Lw_law_637 rfl (lv_at hl 3 rfl) ?_
  refine lv_iload_n hx hb d_Lw_law_638 rfl (lv_at hl 0 rfl) ?_
  refine lv_iconst (v := 2) hx hb d_Lw_law_639 (by decide) ?_
  refine lv_iadd hx hb d_Lw_law_640 ?_
  refine lv_topi (fun x0 e0 => ?_)
  obtain rfl : x0 = nI (i + 2) := e0.trans (nI_p i 2)
  refine va_sld hx hb hX hbl hbA hH.2 (vp_in_nI (by omega) (by omega)) d_Lw_law_641 ?_
  refine lv_topi (fun y2 ey2 => ?_)
  refine lv_aload_n hx hb d_Lw_law_642 rfl (lv_at hl 3 rfl) ?_
  refine lv_iload_n hx hb d_Lw_law_643 rfl (lv_at hl 0 rfl) ?_
  refine lv_iconst (v := 3) hx hb d_Lw_law_644 (by decide) ?_
  refine lv_iadd hx hb d_Lw_law_645 ?_
  refine lv_topi (fun x0 e0 => ?_)
  obtain rfl : x0 = nI (i + 3) := e0.trans (nI_p i 3)
  refine va_sld hx hb hX hbl hbA hH.2 (vp_in_nI (by omega) (by omega)) d_Lw_law_646 ?_
  refine lv_topi (fun y3 ey3 => ?_)
  refine lv_aload_n hx hb d_Lw_law_647 rfl (lv_at hl 3 rfl) ?_
  refine lv_iload_n hx hb d_Lw_law_648 rfl (lv_at hl 0 rfl) ?_
  refine lv_iconst (v := 4) hx hb d_Lw_law_649 (by decide) ?_
  refine lv_iadd hx hb d_Lw_law_650 ?_
  refine lv_topi (fun x0 e0 => ?_)
  obtain rfl : x0 = nI (i + 4) := e0.trans (nI_p i 4)
  refine va_sld hx hb hX hbl hbA hH.2 (vp_in_nI (by omega) (by omega)) d_Lw_law_651 ?_
  refine lv_topi (fun y4 ey4 => ?_)
  refine lv_aload_n hx hb d_Lw_law_652 rfl (lv_at hl 3 rfl) ?_
  refine lv_iload_n hx hb d_Lw_law_653 rfl (lv_at hl 0 rfl) ?_
  refine lv_iconst (v := 5) hx hb d_Lw_law_654 (by decide) ?_
  refine lv_iadd hx hb d_Lw_law_655 ?_
  refine lv_topi (fun x0 e0 => ?_)
  obtain rfl : x0 = nI (i + 5) := e0.trans (nI_p i 5)
  refine va_sld hx hb hX hbl hbA hH.2 (vp_in_nI (by omega) (by omega)) d_Lw_law_656 ?_
  refine lv_topi (fun y5 ey5 => ?_)
  refine lw_cv (ν := 13) (na := 5) (ci := 0) (idx := 58) (k := 0) (iv := (y_Bh_bind, b_Bh_bind, 6, (some .boolean))) (As := [.int y1, .int y2, .int y3, .int y4, .int y5]) (rest := []) F rfl rfl rfl mw_1170 mw_1171 mw_1172 mw_1 mw_1173 ⟨by decide +kernel, by decide +kernel, by decide +kernel⟩ (by decide) d_Lw_law_657 rfl rfl (Nat.le_of_ble_eq_true rfl) rfl (Nat.le_of_ble_eq_true rfl) (pz_bind (by omega) hw) hH hl (fun v w1 H locs hq hH => ?_)
  obtain ⟨r0, rfl, zz0, hT⟩ := hq
  refine W.eq (g2 := F0 m 660 ls [.int r0]) rfl ?_
  refine lv_aload_n hx hb d_Lw_law_660 rfl (lv_at hl 1 rfl) ?_
  refine lv_aload_n hx hb d_Lw_law_661 rfl (lv_at hl 3 rfl) ?_
  refine lv_iload_n hx hb d_Lw_law_662 rfl (lv_at hl 0 rfl) ?_
  refine lv_iconst (v := 1) hx hb d_Lw_law_663 (by decide) ?_
  refine lv_iadd hx hb d_Lw_law_664 ?_
  refine lv_topi (fun x0 e0 => ?_)
  obtain rfl : x0 = nI (i + 1) := e0.trans (nI_p i 1)
  refine va_sld hx hb hX hbl hbA hH.2 (vp_in_nI (by omega) (by omega)) d_Lw_law_665 ?_
  refine lv_topi (fun x0 e0 => ?_)
  obtain rfl : y1 = x0 := ey1.trans e0.symm
  refine lv_aload_n hx hb d_Lw_law_666 rfl (lv_at hl 3 rfl) ?_
  refine lv_iload_n hx hb d_Lw_law_667 rfl (lv_at hl 0 rfl) ?_
  refine lv_iconst (v := 2) hx hb d_Lw_law_668 (by decide) ?_
  refine lv_iadd hx hb d_Lw_law_669 ?_
  refine lv_topi (fun x0 e0 => ?_)
  obtain rfl : x0 = nI (i + 2) := e0.trans (nI_p i 2)
  refine va_sld hx hb hX hbl hbA hH.2 (vp_in_nI (by omega) (by omega)) d_Lw_law_670 ?_
  refine lv_topi (fun x0 e0 => ?_)
  obtain rfl : y2 = x0 := ey2.trans e0.symm
  refine lv_aload_n hx hb d_Lw_law_671 rfl (lv_at hl 3 rfl) ?_
  refine lv_iload_n hx hb d_Lw_law_672 rfl (lv_at hl 0 rfl) ?_
  refine lv_iconst (v := 3) hx hb d_Lw_law_673 (by decide) ?_
  refine lv_iadd hx hb d_Lw_law_674 ?_
  refine lv_topi (fun x0 e0 => ?_)
  obtain rfl : x0 = nI (i + 3) := e0.trans (nI_p i 3)
  refine va_sld hx hb hX hbl hbA hH.2 (vp_in_nI (by omega) (by omega)) d_Lw_law_675 ?_
  refine lv_topi (fun x0 e0 => ?_)
  obtain rfl : y3 = x0 := ey3.trans e0.symm
  refine lv_aload_n hx hb d_Lw_law_676 rfl (lv_at hl 3 rfl) ?_
  refine lv_iload_n hx hb d_Lw_law_677 rfl (lv_at hl 0 rfl) ?_
  refine lv_iconst (v := 4) hx hb d_Lw_law_678 (by decide) ?_
  refine lv_iadd hx hb d_Lw_law_679 ?_
  refine lv_topi (fun x0 e0 => ?_)
  obtain rfl : x0 = nI (i + 4) := e0.trans (nI_p i 4)
  refine va_sld hx hb hX hbl hbA hH.2 (vp_in_nI (by omega) (by omega)) d_Lw_law_680 ?_
  refine lv_topi (fun x0 e0 => ?_)
  obtain rfl : y4 = x0 := ey4.trans e0.symm
  refine lv_aload_n hx hb d_Lw_law_681 rfl (lv_at hl 3 rfl) ?_
  refine lv_iload_n hx hb d_Lw_law_682 rfl (lv_at hl 0 rfl) ?_
  refine lv_iconst (v := 5) hx hb d_Lw_law_683 (by decide) ?_
  refine lv_iadd hx hb d_Lw_law_684 ?_
  refine lv_topi (fun x0 e0 => ?_)
  obtain rfl : x0 = nI (i + 5) := e0.trans (nI_p i 5)
  refine va_sld hx hb hX hbl hbA hH.2 (vp_in_nI (by omega) (by omega)) d_Lw_law_685 ?_
  refine lv_topi (fun x0 e0 => ?_)
  obtain rfl : y5 = x0 := ey5.trans e0.symm
  refine lw_cv (ν := 88) (na := 5) (ci := 12) (idx := 62) (k := 127) (iv := (y_Mo_bind, b_Mo_bind, 6, (some .boolean))) (As := [.int y1, .int y2, .int y3, .int y4, .int y5]) (rest := [.int r0]) F rfl rfl rfl mw_2466 mw_2467 mw_2468 mw_18 mw_2469 ⟨by decide +kernel, by decide +kernel, by decide +kernel⟩ (by decide) d_Lw_law_686 rfl rfl (Nat.le_of_ble_eq_true rfl) rfl (Nat.le_of_ble_eq_true rfl) hT hH hl (fun v w2 H locs hq hH => ?_)
  obtain ⟨r1, rfl, zz1, hw2, heq⟩ := hq
  refine W.eq (g2 := F0 m 689 ls [.int r1, .int r0]) rfl ?_
  refine lv_icmp_eq (tgt := 1208) hx hb d_Lw_law_689 (by decide) (fun _ => ?_) (fun h => absurd heq h)
  exact lk_nx F hH hl (kk w2 _ _ hw2)
set_option maxHeartbeats 4000000 in
set_option maxRecDepth 100000 in
theorem lk_10 {E : EV} {p : Program} {e : Env} {s : State} {m : MethodId} {below : List Frame} {meth : Method} {c : Code} (l : Launch) {b L i : Nat} {xs : Nat → Int32} {H : Heap} {locs : List Loc} {ls : Array Slot} {A : Nat → Prop} {w : MW} (F : LwF E p s m c b A) (hX : va_X b L xs s s.heap) (hbl : b < s.heap.size) (hbA : ¬ A b) (hL : L ≤ 3072) (hi : i + 6 ≤ L) (hw : LKz (100 * (i : Int)) w) (hH : HR E w A s H locs) (hl : lv_has ls 4 [(3, .int (nI i)), (2, .ref (E.ad 127)), (1, .ref (E.ad 0)), (0, .ref b)])
    (kk : ∀ (w2 : MW) (H : Heap) (locs : List Loc), LKz (100 * (i : Int) + 600) w2 → ∀ (ls : Array Slot), HR E w2 A s H locs → lv_has ls 4 [(3, .int (nI (i + 6))), (2, .ref (E.ad 127)), (1, .ref (E.ad 0)), (0, .ref b)] → W p l e room_1 s m #[Value.ref b] below meth c H locs 221 83122 (lw_Z below #[Value.ref b] s) (F0 m 18 ls [])) : W p l e room_1 s m #[Value.ref b] below meth c H locs 221 83122 (lw_Z below #[Value.ref b] s) (F0 m 694 ls []) := by
  obtain ⟨hx, hb, hml, hown, hts, hK, hG, hAs, hAc, hi2⟩ := id F
  refine lv_aload_n hx hb d_Lw_law_694 rfl (lv_at hl 2 rfl) ?_
  refine lv_aload_n hx hb d_Lw_law_695 rfl (lv_at hl 3 rfl) ?_
  refine lv_iload_n hx hb d_Lw_law_696 rfl (lv_at hl 0 rfl) ?_
  refine lv_iconst (v := 1) hx hb d_Lw_law_697 (by decide) ?_
  refine lv_iadd hx hb d_Lw_law_698 ?_
  refine lv_topi (fun x0 e0 => ?_)
  obtain rfl : x0 = nI (i + 1) := e0.trans (nI_p i 1)
  refine va_sld hx hb hX hbl hbA hH.2 (vp_in_nI (by omega) (by omega)) d_Lw_law_699 ?_
  refine lv_topi (fun y1 ey1 => ?_)
  refine lw_cv (ν := 14) (na := 1) (ci := 0) (idx := 63) (k := 0) (iv := (y_Bh_act, b_Bh_act, 3, (some .int))) (As := [.int y1]) (rest := []) F rfl rfl rfl mw_1181 mw_1182 mw_1183 mw_1 mw_1184 ⟨by decide +kernel, by decide +kernel, by decide +kernel⟩ (by decide) d_Lw_law_700 rfl rfl (Nat.le_of_ble_eq_true rfl) rfl (Nat.le_of_ble_eq_true rfl) (pz_act (by omega) hw) hH hl (fun v w1 H locs hq hH => ?_)
  obtain ⟨r0, rfl, hT⟩ := hq
  refine W.eq (g2 := F0 m 703 ls [.int r0]) rfl ?_
  refine lv_aload_n hx hb d_Lw_law_703 rfl (lv_at hl 1 rfl) ?_
  refine lv_aload_n hx hb d_Lw_law_704 rfl (lv_at hl 3 rfl) ?_
  refine lv_iload_n hx hb d_Lw_law_705 rfl (lv_at hl 0 rfl) ?_
  refine lv_iconst (v := 1) hx hb d_Lw_law_706 (by decide) ?_
  refine lv_iadd hx hb d_Lw_law_707 ?_
  refine lv_topi (fun x0 e0 => ?_)
  obtain rfl : x0 = nI (i + 1) := e0.trans (nI_p i 1)
  refine va_sld hx hb hX hbl hbA hH.2 (vp_in_nI (by omega) (by omega)) d_Lw_law_708 ?_
  refine lv_topi (fun x0 e0 => ?_)
  obtain rfl : y1 = x0 := ey1.trans e0.symm
  refine lw_cv (ν := 91) (na := 1) (ci := 12) (idx := 67) (k := 127) (iv := (y_Mo_act, b_Mo_act, 3, (some .int))) (As := [.int y1]) (rest := [.int r0]) F rfl rfl rfl mw_2470 mw_2471 mw_2472 mw_18 mw_2473 ⟨by decide +kernel, by decide +kernel, by decide +kernel⟩ (by decide) d_Lw_law_709 rfl rfl (Nat.le_of_ble_eq_true rfl) rfl (Nat.le_of_ble_eq_true rfl) hT hH hl (fun v w2 H locs hq hH => ?_)
  obtain ⟨r1, rfl, hw2, heq⟩ := hq
  refine W.eq (g2 := F0 m 712 ls [.int r1, .int r0]) rfl ?_
  refine lv_icmp_eq (tgt := 1208) hx hb d_Lw_law_712 (by decide) (fun _ => ?_) (fun h => absurd heq h)
  exact lk_nx F hH hl (kk w2 _ _ hw2)
set_option maxHeartbeats 4000000 in
set_option maxRecDepth 100000 in
theorem lk_11 {E : EV} {p : Program} {e : Env} {s : State} {m : MethodId} {below : List Frame} {meth : Method} {c : Code} (l : Launch) {b L i : Nat} {xs : Nat → Int32} {H : Heap} {locs : List Loc} {ls : Array Slot} {A : Nat → Prop} {w : MW} (F : LwF E p s m c b A) (hX : va_X b L xs s s.heap) (hbl : b < s.heap.size) (hbA : ¬ A b) (hL : L ≤ 3072) (hi : i + 6 ≤ L) (hw : LKz (100 * (i : Int)) w) (hH : HR E w A s H locs) (hl : lv_has ls 4 [(3, .int (nI i)), (2, .ref (E.ad 127)), (1, .ref (E.ad 0)), (0, .ref b)])
    (kk : ∀ (w2 : MW) (H : Heap) (locs : List Loc), LKz (100 * (i : Int) + 600) w2 → ∀ (ls : Array Slot), HR E w2 A s H locs → lv_has ls 4 [(3, .int (nI (i + 6))), (2, .ref (E.ad 127)), (1, .ref (E.ad 0)), (0, .ref b)] → W p l e room_1 s m #[Value.ref b] below meth c H locs 221 83122 (lw_Z below #[Value.ref b] s) (F0 m 18 ls [])) : W p l e room_1 s m #[Value.ref b] below meth c H locs 221 83122 (lw_Z below #[Value.ref b] s) (F0 m 717 ls []) := by
  obtain ⟨hx, hb, hml, hown, hts, hK, hG, hAs, hAc, hi2⟩ := id F
  refine lv_aload_n hx hb d_Lw_law_717 rfl (lv_at hl 2 rfl) ?_
  refine lw_cv (ν := 15) (na := 0) (ci := 0) (idx := 68) (k := 0) (iv := (y_Bh_start, b_Bh_start, 1, (some .boolean))) (As := []) (rest := []) F rfl rfl rfl mw_1293 mw_1294 mw_1295 mw_1 mw_1296 ⟨by decide +kernel, by decide +kernel, by decide +kernel⟩ (by decide) d_Lw_law_718 rfl rfl (Nat.le_of_ble_eq_true rfl) rfl (Nat.le_of_ble_eq_true rfl) (pz_start (by omega) hw) hH hl (fun v w1 H locs hq hH => ?_)
  obtain ⟨r0, rfl, zz0, hT⟩ := hq
  refine W.eq (g2 := F0 m 721 ls [.int r0]) rfl ?_
  refine lv_aload_n hx hb d_Lw_law_721 rfl (lv_at hl 1 rfl) ?_
  refine lw_cv (ν := 107) (na := 0) (ci := 12) (idx := 72) (k := 127) (iv := (y_Mo_start, b_Mo_start, 5, (some .boolean))) (As := []) (rest := [.int r0]) F rfl rfl rfl mw_2574 mw_2575 mw_2576 mw_18 mw_2577 ⟨by decide +kernel, by decide +kernel, by decide +kernel⟩ (by decide) d_Lw_law_722 rfl rfl (Nat.le_of_ble_eq_true rfl) rfl (Nat.le_of_ble_eq_true rfl) hT hH hl (fun v w2 H locs hq hH => ?_)
  obtain ⟨r1, rfl, zz1, hw2, heq⟩ := hq
  refine W.eq (g2 := F0 m 725 ls [.int r1, .int r0]) rfl ?_
  refine lv_icmp_eq (tgt := 1208) hx hb d_Lw_law_725 (by decide) (fun _ => ?_) (fun h => absurd heq h)
  exact lk_nx F hH hl (kk w2 _ _ hw2)
set_option maxHeartbeats 4000000 in
set_option maxRecDepth 100000 in
theorem lk_12 {E : EV} {p : Program} {e : Env} {s : State} {m : MethodId} {below : List Frame} {meth : Method} {c : Code} (l : Launch) {b L i : Nat} {xs : Nat → Int32} {H : Heap} {locs : List Loc} {ls : Array Slot} {A : Nat → Prop} {w : MW} (F : LwF E p s m c b A) (hX : va_X b L xs s s.heap) (hbl : b < s.heap.size) (hbA : ¬ A b) (hL : L ≤ 3072) (hi : i + 6 ≤ L) (hw : LKz (100 * (i : Int)) w) (hH : HR E w A s H locs) (hl : lv_has ls 4 [(3, .int (nI i)), (2, .ref (E.ad 127)), (1, .ref (E.ad 0)), (0, .ref b)])
    (kk : ∀ (w2 : MW) (H : Heap) (locs : List Loc), LKz (100 * (i : Int) + 600) w2 → ∀ (ls : Array Slot), HR E w2 A s H locs → lv_has ls 4 [(3, .int (nI (i + 6))), (2, .ref (E.ad 127)), (1, .ref (E.ad 0)), (0, .ref b)] → W p l e room_1 s m #[Value.ref b] below meth c H locs 221 83122 (lw_Z below #[Value.ref b] s) (F0 m 18 ls [])) : W p l e room_1 s m #[Value.ref b] below meth c H locs 221 83122 (lw_Z below #[Value.ref b] s) (F0 m 730 ls []) := by
  obtain ⟨hx, hb, hml, hown, hts, hK, hG, hAs, hAc, hi2⟩ := id F
  refine lv_aload_n hx hb d_Lw_law_730 rfl (lv_at hl 2 rfl) ?_
  refine lv_aload_n hx hb d_Lw_law_731 rfl (lv_at hl 3 rfl) ?_
  refine lv_iload_n hx hb d_Lw_law_732 rfl (lv_at hl 0 rfl) ?_
  refine lv_iconst (v := 1) hx hb d_Lw_law_733 (by decide) ?_
  refine lv_iadd hx hb d_Lw_law_734 ?_
  refine lv_topi (fun x0 e0 => ?_)
  obtain rfl : x0 = nI (i + 1) := e0.trans (nI_p i 1)
  refine va_sld hx hb hX hbl hbA hH.2 (vp_in_nI (by omega) (by omega)) d_Lw_law_735 ?_
  refine lv_topi (fun y1 ey1 => ?_)
  refine lw_cv (ν := 16) (na := 1) (ci := 0) (idx := 73) (k := 0) (iv := (y_Bh_tick, b_Bh_tick, 3, (some .int))) (As := [.int y1]) (rest := []) F rfl rfl rfl mw_1318 mw_1319 mw_1320 mw_1 mw_1321 ⟨by decide +kernel, by decide +kernel, by decide +kernel⟩ (by decide) d_Lw_law_736 rfl rfl (Nat.le_of_ble_eq_true rfl) rfl (Nat.le_of_ble_eq_true rfl) (pz_tick (by omega) hw) hH hl (fun v w1 H locs hq hH => ?_)
  obtain ⟨r0, rfl, hT⟩ := hq
  refine W.eq (g2 := F0 m 739 ls [.int r0]) rfl ?_
  refine lv_aload_n hx hb d_Lw_law_739 rfl (lv_at hl 1 rfl) ?_
  refine lv_aload_n hx hb d_Lw_law_740 rfl (lv_at hl 3 rfl) ?_
  refine lv_iload_n hx hb d_Lw_law_741 rfl (lv_at hl 0 rfl) ?_
  refine lv_iconst (v := 1) hx hb d_Lw_law_742 (by decide) ?_
  refine lv_iadd hx hb d_Lw_law_743 ?_
  refine lv_topi (fun x0 e0 => ?_)
  obtain rfl : x0 = nI (i + 1) := e0.trans (nI_p i 1)
  refine va_sld hx hb hX hbl hbA hH.2 (vp_in_nI (by omega) (by omega)) d_Lw_law_744 ?_
  refine lv_topi (fun x0 e0 => ?_)
  obtain rfl : y1 = x0 := ey1.trans e0.symm
  refine lw_cv (ν := 117) (na := 1) (ci := 12) (idx := 76) (k := 127) (iv := (y_Mo_tick, b_Mo_tick, 5, (some .int))) (As := [.int y1]) (rest := [.int r0]) F rfl rfl rfl mw_2599 mw_2600 mw_2601 mw_18 mw_2602 ⟨by decide +kernel, by decide +kernel, by decide +kernel⟩ (by decide) d_Lw_law_745 rfl rfl (Nat.le_of_ble_eq_true rfl) rfl (Nat.le_of_ble_eq_true rfl) hT hH hl (fun v w2 H locs hq hH => ?_)
  obtain ⟨r1, rfl, hw2, heq⟩ := hq
  refine W.eq (g2 := F0 m 748 ls [.int r1, .int r0]) rfl ?_
  refine lv_icmp_eq (tgt := 1208) hx hb d_Lw_law_748 (by decide) (fun _ => ?_) (fun h => absurd heq h)
  exact lk_nx F hH hl (kk w2 _ _ hw2)
set_option maxHeartbeats 4000000 in
set_option maxRecDepth 100000 in
theorem lk_13 {E : EV} {p : Program} {e : Env} {s : State} {m : MethodId} {below : List Frame} {meth : Method} {c : Code} (l : Launch) {b L i : Nat} {xs : Nat → Int32} {H : Heap} {locs : List Loc} {ls : Array Slot} {A : Nat → Prop} {w : MW} (F : LwF E p s m c b A) (hX : va_X b L xs s s.heap) (hbl : b < s.heap.size) (hbA : ¬ A b) (hL : L ≤ 3072) (hi : i + 6 ≤ L) (hw : LKz (100 * (i : Int)) w) (hH : HR E w A s H locs) (hl : lv_has ls 4 [(3, .int (nI i)), (2, .ref (E.ad 127)), (1, .ref (E.ad 0)), (0, .ref b)])
    (kk : ∀ (w2 : MW) (H : Heap) (locs : List Loc), LKz (100 * (i : Int) + 600) w2 → ∀ (ls : Array Slot), HR E w2 A s H locs → lv_has ls 4 [(3, .int (nI (i + 6))), (2, .ref (E.ad 127)), (1, .ref (E.ad 0)), (0, .ref b)] → W p l e room_1 s m #[Value.ref b] below meth c H locs 221 83122 (lw_Z below #[Value.ref b] s) (F0 m 18 ls [])) : W p l e room_1 s m #[Value.ref b] below meth c H locs 221 83122 (lw_Z below #[Value.ref b] s) (F0 m 753 ls []) := by
  obtain ⟨hx, hb, hml, hown, hts, hK, hG, hAs, hAc, hi2⟩ := id F
  refine lv_aload_n hx hb d_Lw_law_753 rfl (lv_at hl 2 rfl) ?_
  refine lv_aload_n hx hb d_Lw_law_754 rfl (lv_at hl 3 rfl) ?_
  refine lv_iload_n hx hb d_Lw_law_755 rfl (lv_at hl 0 rfl) ?_
  refine lv_iconst (v := 1) hx hb d_Lw_law_756 (by decide) ?_
  refine lv_iadd hx hb d_Lw_law_757 ?_
  refine lv_topi (fun x0 e0 => ?_)
  obtain rfl : x0 = nI (i + 1) := e0.trans (nI_p i 1)
  refine va_sld hx hb hX hbl hbA hH.2 (vp_in_nI (by omega) (by omega)) d_Lw_law_758 ?_
  refine lv_topi (fun y1 ey1 => ?_)
  refine lv_i2l hx hb d_Lw_law_759 rfl ?_
  refine lv_bipush (v := 32) hx hb d_Lw_law_760 (by decide) ?_
  refine lv_lshl hx hb d_Lw_law_762 rfl ?_
  refine lv_aload_n hx hb d_Lw_law_763 rfl (lv_at hl 3 rfl) ?_
  refine lv_iload_n hx hb d_Lw_law_764 rfl (lv_at hl 0 rfl) ?_
  refine lv_iconst (v := 2) hx hb d_Lw_law_765 (by decide) ?_
  refine lv_iadd hx hb d_Lw_law_766 ?_
  refine lv_topi (fun x0 e0 => ?_)
  obtain rfl : x0 = nI (i + 2) := e0.trans (nI_p i 2)
  refine va_sld hx hb hX hbl hbA hH.2 (vp_in_nI (by omega) (by omega)) d_Lw_law_767 ?_
  refine lv_topi (fun y2 ey2 => ?_)
  refine lv_i2l hx hb d_Lw_law_768 rfl ?_
  refine lv_ldc2 (v := 4294967295) hx hb hown (hts _ (List.mem_cons_of_mem _ mw_2699)) d_Lw_law_769 ?_
  refine lv_land hx hb d_Lw_law_772 ?_
  refine lv_lor hx hb d_Lw_law_773 ?_
  refine lv_topl (fun q0 eq0 => ?_)
  refine lw_cv (ν := 19) (na := 1) (ci := 0) (idx := 77) (k := 0) (iv := (y_Bh_answer, b_Bh_answer, 3, (some .boolean))) (As := [.long q0]) (rest := []) F rfl rfl rfl mw_1468 mw_1469 mw_1470 mw_1 mw_1471 ⟨by decide +kernel, by decide +kernel, by decide +kernel⟩ (by decide) d_Lw_law_774 rfl rfl (Nat.le_of_ble_eq_true rfl) rfl (Nat.le_of_ble_eq_true rfl) (pz_answer (by omega) hw) hH hl (fun v w1 H locs hq hH => ?_)
  obtain ⟨r0, rfl, zz0, hT⟩ := hq
  refine W.eq (g2 := F0 m 777 ls [.int r0]) rfl ?_
  refine lv_aload_n hx hb d_Lw_law_777 rfl (lv_at hl 1 rfl) ?_
  refine lv_aload_n hx hb d_Lw_law_778 rfl (lv_at hl 3 rfl) ?_
  refine lv_iload_n hx hb d_Lw_law_779 rfl (lv_at hl 0 rfl) ?_
  refine lv_iconst (v := 1) hx hb d_Lw_law_780 (by decide) ?_
  refine lv_iadd hx hb d_Lw_law_781 ?_
  refine lv_topi (fun x0 e0 => ?_)
  obtain rfl : x0 = nI (i + 1) := e0.trans (nI_p i 1)
  refine va_sld hx hb hX hbl hbA hH.2 (vp_in_nI (by omega) (by omega)) d_Lw_law_782 ?_
  refine lv_topi (fun x0 e0 => ?_)
  obtain rfl : y1 = x0 := ey1.trans e0.symm
  refine lv_i2l hx hb d_Lw_law_783 rfl ?_
  refine lv_bipush (v := 32) hx hb d_Lw_law_784 (by decide) ?_
  refine lv_lshl hx hb d_Lw_law_786 rfl ?_
  refine lv_aload_n hx hb d_Lw_law_787 rfl (lv_at hl 3 rfl) ?_
  refine lv_iload_n hx hb d_Lw_law_788 rfl (lv_at hl 0 rfl) ?_
  refine lv_iconst (v := 2) hx hb d_Lw_law_789 (by decide) ?_
  refine lv_iadd hx hb d_Lw_law_790 ?_
  refine lv_topi (fun x0 e0 => ?_)
  obtain rfl : x0 = nI (i + 2) := e0.trans (nI_p i 2)
  refine va_sld hx hb hX hbl hbA hH.2 (vp_in_nI (by omega) (by omega)) d_Lw_law_791 ?_
  refine lv_topi (fun x0 e0 => ?_)
  obtain rfl : y2 = x0 := ey2.trans e0.symm
  refine lv_i2l hx hb d_Lw_law_792 rfl ?_
  refine lv_ldc2 (v := 4294967295) hx hb hown (hts _ (List.mem_cons_of_mem _ mw_2699)) d_Lw_law_793 ?_
  refine lv_land hx hb d_Lw_law_796 ?_
  refine lv_lor hx hb d_Lw_law_797 ?_
  refine lv_topl (fun x0 e0 => ?_)
  obtain rfl : q0 = x0 := eq0.trans e0.symm
  refine lw_cv (ν := 119) (na := 1) (ci := 12) (idx := 81) (k := 127) (iv := (y_Mo_answer, b_Mo_answer, 4, (some .boolean))) (As := [.long q0]) (rest := [.int r0]) F rfl rfl rfl mw_2667 mw_2668 mw_2669 mw_18 mw_2670 ⟨by decide +kernel, by decide +kernel, by decide +kernel⟩ (by decide) d_Lw_law_798 rfl rfl (Nat.le_of_ble_eq_true rfl) rfl (Nat.le_of_ble_eq_true rfl) hT hH hl (fun v w2 H locs hq hH => ?_)
  obtain ⟨r1, rfl, zz1, hw2, heq⟩ := hq
  refine W.eq (g2 := F0 m 801 ls [.int r1, .int r0]) rfl ?_
  refine lv_icmp_eq (tgt := 1208) hx hb d_Lw_law_801 (by decide) (fun _ => ?_) (fun h => absurd heq h)
  exact lk_nx F hH hl (kk w2 _ _ hw2)
set_option maxHeartbeats 4000000 in
set_option maxRecDepth 100000 in
theorem lk_14 {E : EV} {p : Program} {e : Env} {s : State} {m : MethodId} {below : List Frame} {meth : Method} {c : Code} (l : Launch) {b L i : Nat} {xs : Nat → Int32} {H : Heap} {locs : List Loc} {ls : Array Slot} {A : Nat → Prop} {w : MW} (F : LwF E p s m c b A) (hX : va_X b L xs s s.heap) (hbl : b < s.heap.size) (hbA : ¬ A b) (hL : L ≤ 3072) (hi : i + 6 ≤ L) (hw : LKz (100 * (i : Int)) w) (hH : HR E w A s H locs) (hl : lv_has ls 4 [(3, .int (nI i)), (2, .ref (E.ad 127)), (1, .ref (E.ad 0)), (0, .ref b)])
    (kk : ∀ (w2 : MW) (H : Heap) (locs : List Loc), LKz (100 * (i : Int) + 600) w2 → ∀ (ls : Array Slot), HR E w2 A s H locs → lv_has ls 4 [(3, .int (nI (i + 6))), (2, .ref (E.ad 127)), (1, .ref (E.ad 0)), (0, .ref b)] → W p l e room_1 s m #[Value.ref b] below meth c H locs 221 83122 (lw_Z below #[Value.ref b] s) (F0 m 18 ls [])) : W p l e room_1 s m #[Value.ref b] below meth c H locs 221 83122 (lw_Z below #[Value.ref b] s) (F0 m 806 ls []) := by
  obtain ⟨hx, hb, hml, hown, hts, hK, hG, hAs, hAc, hi2⟩ := id F
  refine lv_aload_n hx hb d_Lw_law_806 rfl (lv_at hl 2 rfl) ?_
  refine lv_aload_n hx hb d_Lw_law_807 rfl (lv_at hl 3 rfl) ?_
  refine lv_iload_n hx hb d_Lw_law_808 rfl (lv_at hl 0 rfl) ?_
  refine lv_iconst (v := 1) hx hb d_Lw_law_809 (by decide) ?_
  refine lv_iadd hx hb d_Lw_law_810 ?_
  refine lv_topi (fun x0 e0 => ?_)
  obtain rfl : x0 = nI (i + 1) := e0.trans (nI_p i 1)
  refine va_sld hx hb hX hbl hbA hH.2 (vp_in_nI (by omega) (by omega)) d_Lw_law_811 ?_
  refine lv_topi (fun y1 ey1 => ?_)
  refine lv_if_eq (tgt := 819) hx hb d_Lw_law_812 (by decide) (fun hby1 => ?_) (fun hby1 => ?_)
  · refine lv_iconst (v := 0) hx hb d_Lw_law_819 (by decide) ?_
    refine lw_cv (ν := 20) (na := 1) (ci := 0) (idx := 82) (k := 0) (iv := (y_Bh_hold, b_Bh_hold, 2, (some .boolean))) (As := [.int 0]) (rest := []) F rfl rfl rfl mw_1480 mw_1481 mw_1482 mw_1 mw_1483 ⟨by decide +kernel, by decide +kernel, by decide +kernel⟩ (by decide) d_Lw_law_820 rfl rfl (Nat.le_of_ble_eq_true rfl) rfl (Nat.le_of_ble_eq_true rfl) (pz_hold (by omega) hw) hH hl (fun v w1 H locs hq hH => ?_)
    obtain ⟨r0, rfl, zz0, hT⟩ := hq
    refine W.eq (g2 := F0 m 823 ls [.int r0]) rfl ?_
    refine lv_aload_n hx hb d_Lw_law_823 rfl (lv_at hl 1 rfl) ?_
    refine lv_aload_n hx hb d_Lw_law_824 rfl (lv_at hl 3 rfl) ?_
    refine lv_iload_n hx hb d_Lw_law_825 rfl (lv_at hl 0 rfl) ?_
    refine lv_iconst (v := 1) hx hb d_Lw_law_826 (by decide) ?_
    refine lv_iadd hx hb d_Lw_law_827 ?_
    refine lv_topi (fun x0 e0 => ?_)
    obtain rfl : x0 = nI (i + 1) := e0.trans (nI_p i 1)
    refine va_sld hx hb hX hbl hbA hH.2 (vp_in_nI (by omega) (by omega)) d_Lw_law_828 ?_
    refine lv_topi (fun x0 e0 => ?_)
    obtain rfl : y1 = x0 := ey1.trans e0.symm
    refine lv_if_eq (tgt := 836) hx hb d_Lw_law_829 (by decide) (fun _ => ?_) (fun h => absurd hby1 h)
    refine lv_iconst (v := 0) hx hb d_Lw_law_836 (by decide) ?_
    refine lw_cv (ν := 120) (na := 1) (ci := 12) (idx := 86) (k := 127) (iv := (y_Mo_hold, b_Mo_hold, 2, (some .boolean))) (As := [.int 0]) (rest := [.int r0]) F rfl rfl rfl mw_2675 mw_2676 mw_2677 mw_18 mw_2678 ⟨by decide +kernel, by decide +kernel, by decide +kernel⟩ (by decide) d_Lw_law_837 rfl rfl (Nat.le_of_ble_eq_true rfl) rfl (Nat.le_of_ble_eq_true rfl) hT hH hl (fun v w2 H locs hq hH => ?_)
    obtain ⟨r1, rfl, zz1, hw2, heq⟩ := hq
    refine W.eq (g2 := F0 m 840 ls [.int r1, .int r0]) rfl ?_
    refine lv_icmp_eq (tgt := 1208) hx hb d_Lw_law_840 (by decide) (fun _ => ?_) (fun h => absurd heq h)
    exact lk_nx F hH hl (kk w2 _ _ hw2)
  · refine lv_iconst (v := 1) hx hb d_Lw_law_815 (by decide) ?_
    refine lv_goto (tgt := 820) hx hb d_Lw_law_816 (by decide) ?_
    refine lw_cv (ν := 20) (na := 1) (ci := 0) (idx := 82) (k := 0) (iv := (y_Bh_hold, b_Bh_hold, 2, (some .boolean))) (As := [.int 1]) (rest := []) F rfl rfl rfl mw_1480 mw_1481 mw_1482 mw_1 mw_1483 ⟨by decide +kernel, by decide +kernel, by decide +kernel⟩ (by decide) d_Lw_law_820 rfl rfl (Nat.le_of_ble_eq_true rfl) rfl (Nat.le_of_ble_eq_true rfl) (pz_hold (by omega) hw) hH hl (fun v w1 H locs hq hH => ?_)
    obtain ⟨r0, rfl, zz0, hT⟩ := hq
    refine W.eq (g2 := F0 m 823 ls [.int r0]) rfl ?_
    refine lv_aload_n hx hb d_Lw_law_823 rfl (lv_at hl 1 rfl) ?_
    refine lv_aload_n hx hb d_Lw_law_824 rfl (lv_at hl 3 rfl) ?_
    refine lv_iload_n hx hb d_Lw_law_825 rfl (lv_at hl 0 rfl) ?_
    refine lv_iconst (v := 1) hx hb d_Lw_law_826 (by decide) ?_
    refine lv_iadd hx hb d_Lw_law_827 ?_
    refine lv_topi (fun x0 e0 => ?_)
    obtain rfl : x0 = nI (i + 1) := e0.trans (nI_p i 1)
    refine va_sld hx hb hX hbl hbA hH.2 (vp_in_nI (by omega) (by omega)) d_Lw_law_828 ?_
    refine lv_topi (fun x0 e0 => ?_)
    obtain rfl : y1 = x0 := ey1.trans e0.symm
    refine lv_if_eq (tgt := 836) hx hb d_Lw_law_829 (by decide) (fun h => absurd h hby1) (fun _ => ?_)
    refine lv_iconst (v := 1) hx hb d_Lw_law_832 (by decide) ?_
    refine lv_goto (tgt := 837) hx hb d_Lw_law_833 (by decide) ?_
    refine lw_cv (ν := 120) (na := 1) (ci := 12) (idx := 86) (k := 127) (iv := (y_Mo_hold, b_Mo_hold, 2, (some .boolean))) (As := [.int 1]) (rest := [.int r0]) F rfl rfl rfl mw_2675 mw_2676 mw_2677 mw_18 mw_2678 ⟨by decide +kernel, by decide +kernel, by decide +kernel⟩ (by decide) d_Lw_law_837 rfl rfl (Nat.le_of_ble_eq_true rfl) rfl (Nat.le_of_ble_eq_true rfl) hT hH hl (fun v w2 H locs hq hH => ?_)
    obtain ⟨r1, rfl, zz1, hw2, heq⟩ := hq
    refine W.eq (g2 := F0 m 840 ls [.int r1, .int r0]) rfl ?_
    refine lv_icmp_eq (tgt := 1208) hx hb d_Lw_law_840 (by decide) (fun _ => ?_) (fun h => absurd heq h)
    exact lk_nx F hH hl (kk w2 _ _ hw2)
set_option maxHeartbeats 4000000 in
set_option maxRecDepth 100000 in
theorem lk_15 {E : EV} {p : Program} {e : Env} {s : State} {m : MethodId} {below : List Frame} {meth : Method} {c : Code} (l : Launch) {b L i : Nat} {xs : Nat → Int32} {H : Heap} {locs : List Loc} {ls : Array Slot} {A : Nat → Prop} {w : MW} (F : LwF E p s m c b A) (hX : va_X b L xs s s.heap) (hbl : b < s.heap.size) (hbA : ¬ A b) (hL : L ≤ 3072) (hi : i + 6 ≤ L) (hw : LKz (100 * (i : Int)) w) (hH : HR E w A s H locs) (hl : lv_has ls 4 [(3, .int (nI i)), (2, .ref (E.ad 127)), (1, .ref (E.ad 0)), (0, .ref b)])
    (kk : ∀ (w2 : MW) (H : Heap) (locs : List Loc), LKz (100 * (i : Int) + 600) w2 → ∀ (ls : Array Slot), HR E w2 A s H locs → lv_has ls 4 [(3, .int (nI (i + 6))), (2, .ref (E.ad 127)), (1, .ref (E.ad 0)), (0, .ref b)] → W p l e room_1 s m #[Value.ref b] below meth c H locs 221 83122 (lw_Z below #[Value.ref b] s) (F0 m 18 ls [])) : W p l e room_1 s m #[Value.ref b] below meth c H locs 221 83122 (lw_Z below #[Value.ref b] s) (F0 m 845 ls []) := by
  obtain ⟨hx, hb, hml, hown, hts, hK, hG, hAs, hAc, hi2⟩ := id F
  refine lv_aload_n hx hb d_Lw_law_845 rfl (lv_at hl 2 rfl) ?_
  refine lw_cv (ν := 21) (na := 0) (ci := 0) (idx := 87) (k := 0) (iv := (y_Bh_stop, b_Bh_stop, 1, (some .boolean))) (As := []) (rest := []) F rfl rfl rfl mw_1484 mw_1485 mw_1486 mw_1 mw_1487 ⟨by decide +kernel, by decide +kernel, by decide +kernel⟩ (by decide) d_Lw_law_846 rfl rfl (Nat.le_of_ble_eq_true rfl) rfl (Nat.le_of_ble_eq_true rfl) (pz_stop (by omega) hw) hH hl (fun v w1 H locs hq hH => ?_)
  obtain ⟨r0, rfl, zz0, hT⟩ := hq
  refine W.eq (g2 := F0 m 849 ls [.int r0]) rfl ?_
  refine lv_aload_n hx hb d_Lw_law_849 rfl (lv_at hl 1 rfl) ?_
  refine lw_cv (ν := 121) (na := 0) (ci := 12) (idx := 90) (k := 127) (iv := (y_Mo_stop, b_Mo_stop, 1, (some .boolean))) (As := []) (rest := [.int r0]) F rfl rfl rfl mw_2679 mw_2680 mw_2681 mw_18 mw_2682 ⟨by decide +kernel, by decide +kernel, by decide +kernel⟩ (by decide) d_Lw_law_850 rfl rfl (Nat.le_of_ble_eq_true rfl) rfl (Nat.le_of_ble_eq_true rfl) hT hH hl (fun v w2 H locs hq hH => ?_)
  obtain ⟨r1, rfl, zz1, hw2, heq⟩ := hq
  refine W.eq (g2 := F0 m 853 ls [.int r1, .int r0]) rfl ?_
  refine lv_icmp_eq (tgt := 1208) hx hb d_Lw_law_853 (by decide) (fun _ => ?_) (fun h => absurd heq h)
  exact lk_nx F hH hl (kk w2 _ _ hw2)
set_option maxHeartbeats 4000000 in
set_option maxRecDepth 100000 in
theorem lk_16 {E : EV} {p : Program} {e : Env} {s : State} {m : MethodId} {below : List Frame} {meth : Method} {c : Code} (l : Launch) {b L i : Nat} {xs : Nat → Int32} {H : Heap} {locs : List Loc} {ls : Array Slot} {A : Nat → Prop} {w : MW} (F : LwF E p s m c b A) (hX : va_X b L xs s s.heap) (hbl : b < s.heap.size) (hbA : ¬ A b) (hL : L ≤ 3072) (hi : i + 6 ≤ L) (hw : LKz (100 * (i : Int)) w) (hH : HR E w A s H locs) (hl : lv_has ls 4 [(3, .int (nI i)), (2, .ref (E.ad 127)), (1, .ref (E.ad 0)), (0, .ref b)])
    (kk : ∀ (w2 : MW) (H : Heap) (locs : List Loc), LKz (100 * (i : Int) + 600) w2 → ∀ (ls : Array Slot), HR E w2 A s H locs → lv_has ls 4 [(3, .int (nI (i + 6))), (2, .ref (E.ad 127)), (1, .ref (E.ad 0)), (0, .ref b)] → W p l e room_1 s m #[Value.ref b] below meth c H locs 221 83122 (lw_Z below #[Value.ref b] s) (F0 m 18 ls [])) : W p l e room_1 s m #[Value.ref b] below meth c H locs 221 83122 (lw_Z below #[Value.ref b] s) (F0 m 858 ls []) := by
  obtain ⟨hx, hb, hml, hown, hts, hK, hG, hAs, hAc, hi2⟩ := id F
  refine lv_aload_n hx hb d_Lw_law_858 rfl (lv_at hl 2 rfl) ?_
  refine lv_aload_n hx hb d_Lw_law_859 rfl (lv_at hl 3 rfl) ?_
  refine lv_iload_n hx hb d_Lw_law_860 rfl (lv_at hl 0 rfl) ?_
  refine lv_iconst (v := 1) hx hb d_Lw_law_861 (by decide) ?_
  refine lv_iadd hx hb d_Lw_law_862 ?_
  refine lv_topi (fun x0 e0 => ?_)
  obtain rfl : x0 = nI (i + 1) := e0.trans (nI_p i 1)
  refine va_sld hx hb hX hbl hbA hH.2 (vp_in_nI (by omega) (by omega)) d_Lw_law_863 ?_
  refine lv_topi (fun y1 ey1 => ?_)
  refine lv_aload_n hx hb d_Lw_law_864 rfl (lv_at hl 3 rfl) ?_
  refine lv_iload_n hx hb d_Lw_law_865 rfl (lv_at hl 0 rfl) ?_
  refine lv_iconst (v := 2) hx hb d_Lw_law_866 (by decide) ?_
  refine lv_iadd hx hb d_Lw_law_867 ?_
  refine lv_topi (fun x0 e0 => ?_)
  obtain rfl : x0 = nI (i + 2) := e0.trans (nI_p i 2)
  refine va_sld hx hb hX hbl hbA hH.2 (vp_in_nI (by omega) (by omega)) d_Lw_law_868 ?_
  refine lv_topi (fun y2 ey2 => ?_)
  refine lv_aload_n hx hb d_Lw_law_869 rfl (lv_at hl 3 rfl) ?_
  refine lv_iload_n hx hb d_Lw_law_870 rfl (lv_at hl 0 rfl) ?_
  refine lv_iconst (v := 3) hx hb d_Lw_law_871 (by decide) ?_
  refine lv_iadd hx hb d_Lw_law_872 ?_
  refine lv_topi (fun x0 e0 => ?_)
  obtain rfl : x0 = nI (i + 3) := e0.trans (nI_p i 3)
  refine va_sld hx hb hX hbl hbA hH.2 (vp_in_nI (by omega) (by omega)) d_Lw_law_873 ?_
  refine lv_topi (fun y3 ey3 => ?_)
  refine lv_aload_n hx hb d_Lw_law_874 rfl (lv_at hl 3 rfl) ?_
  refine lv_iload_n hx hb d_Lw_law_875 rfl (lv_at hl 0 rfl) ?_
  refine lv_iconst (v := 4) hx hb d_Lw_law_876 (by decide) ?_
  refine lv_iadd hx hb d_Lw_law_877 ?_
  refine lv_topi (fun x0 e0 => ?_)
  obtain rfl : x0 = nI (i + 4) := e0.trans (nI_p i 4)
  refine va_sld hx hb hX hbl hbA hH.2 (vp_in_nI (by omega) (by omega)) d_Lw_law_878 ?_
  refine lv_topi (fun y4 ey4 => ?_)
  refine lw_cv (ν := 22) (na := 4) (ci := 0) (idx := 91) (k := 0) (iv := (y_Bh_pass, b_Bh_pass, 5, (some .int))) (As := [.int y1, .int y2, .int y3, .int y4]) (rest := []) F rfl rfl rfl mw_1488 mw_1489 mw_1490 mw_1 mw_1491 ⟨by decide +kernel, by decide +kernel, by decide +kernel⟩ (by decide) d_Lw_law_879 rfl rfl (Nat.le_of_ble_eq_true rfl) rfl (Nat.le_of_ble_eq_true rfl) (pz_pass (by omega) hw) hH hl (fun v w1 H locs hq hH => ?_)
  obtain ⟨r0, rfl, hT⟩ := hq
  refine W.eq (g2 := F0 m 882 ls [.int r0]) rfl ?_
  refine lv_aload_n hx hb d_Lw_law_882 rfl (lv_at hl 1 rfl) ?_
  refine lv_aload_n hx hb d_Lw_law_883 rfl (lv_at hl 3 rfl) ?_
  refine lv_iload_n hx hb d_Lw_law_884 rfl (lv_at hl 0 rfl) ?_
  refine lv_iconst (v := 1) hx hb d_Lw_law_885 (by decide) ?_
  refine lv_iadd hx hb d_Lw_law_886 ?_
  refine lv_topi (fun x0 e0 => ?_)
  obtain rfl : x0 = nI (i + 1) := e0.trans (nI_p i 1)
  refine va_sld hx hb hX hbl hbA hH.2 (vp_in_nI (by omega) (by omega)) d_Lw_law_887 ?_
  refine lv_topi (fun x0 e0 => ?_)
  obtain rfl : y1 = x0 := ey1.trans e0.symm
  refine lv_aload_n hx hb d_Lw_law_888 rfl (lv_at hl 3 rfl) ?_
  refine lv_iload_n hx hb d_Lw_law_889 rfl (lv_at hl 0 rfl) ?_
  refine lv_iconst (v := 2) hx hb d_Lw_law_890 (by decide) ?_
  refine lv_iadd hx hb d_Lw_law_891 ?_
  refine lv_topi (fun x0 e0 => ?_)
  obtain rfl : x0 = nI (i + 2) := e0.trans (nI_p i 2)
  refine va_sld hx hb hX hbl hbA hH.2 (vp_in_nI (by omega) (by omega)) d_Lw_law_892 ?_
  refine lv_topi (fun x0 e0 => ?_)
  obtain rfl : y2 = x0 := ey2.trans e0.symm
  refine lv_aload_n hx hb d_Lw_law_893 rfl (lv_at hl 3 rfl) ?_
  refine lv_iload_n hx hb d_Lw_law_894 rfl (lv_at hl 0 rfl) ?_
  refine lv_iconst (v := 3) hx hb d_Lw_law_895 (by decide) ?_
  refine lv_iadd hx hb d_Lw_law_896 ?_
  refine lv_topi (fun x0 e0 => ?_)
  obtain rfl : x0 = nI (i + 3) := e0.trans (nI_p i 3)
  refine va_sld hx hb hX hbl hbA hH.2 (vp_in_nI (by omega) (by omega)) d_Lw_law_897 ?_
  refine lv_topi (fun x0 e0 => ?_)
  obtain rfl : y3 = x0 := ey3.trans e0.symm
  refine lv_aload_n hx hb d_Lw_law_898 rfl (lv_at hl 3 rfl) ?_
  refine lv_iload_n hx hb d_Lw_law_899 rfl (lv_at hl 0 rfl) ?_
  refine lv_iconst (v := 4) hx hb d_Lw_law_900 (by decide) ?_
  refine lv_iadd hx hb d_Lw_law_901 ?_
  refine lv_topi (fun x0 e0 => ?_)
  obtain rfl : x0 = nI (i + 4) := e0.trans (nI_p i 4)
  refine va_sld hx hb hX hbl hbA hH.2 (vp_in_nI (by omega) (by omega)) d_Lw_law_902 ?_
  refine lv_topi (fun x0 e0 => ?_)
  obtain rfl : y4 = x0 := ey4.trans e0.symm
  refine lw_cv (ν := 99) (na := 4) (ci := 12) (idx := 95) (k := 127) (iv := (y_Mo_pass, b_Mo_pass, 5, (some .int))) (As := [.int y1, .int y2, .int y3, .int y4]) (rest := [.int r0]) F rfl rfl rfl mw_2545 mw_2546 mw_2547 mw_18 mw_2548 ⟨by decide +kernel, by decide +kernel, by decide +kernel⟩ (by decide) d_Lw_law_903 rfl rfl (Nat.le_of_ble_eq_true rfl) rfl (Nat.le_of_ble_eq_true rfl) hT hH hl (fun v w2 H locs hq hH => ?_)
  obtain ⟨r1, rfl, hw2, heq⟩ := hq
  refine W.eq (g2 := F0 m 906 ls [.int r1, .int r0]) rfl ?_
  refine lv_icmp_eq (tgt := 1208) hx hb d_Lw_law_906 (by decide) (fun _ => ?_) (fun h => absurd heq h)
  exact lk_nx F hH hl (kk w2 _ _ hw2)
set_option maxHeartbeats 4000000 in
set_option maxRecDepth 100000 in
theorem lk_17 {E : EV} {p : Program} {e : Env} {s : State} {m : MethodId} {below : List Frame} {meth : Method} {c : Code} (l : Launch) {b L i : Nat} {xs : Nat → Int32} {H : Heap} {locs : List Loc} {ls : Array Slot} {A : Nat → Prop} {w : MW} (F : LwF E p s m c b A) (hX : va_X b L xs s s.heap) (hbl : b < s.heap.size) (hbA : ¬ A b) (hL : L ≤ 3072) (hi : i + 6 ≤ L) (hw : LKz (100 * (i : Int)) w) (hH : HR E w A s H locs) (hl : lv_has ls 4 [(3, .int (nI i)), (2, .ref (E.ad 127)), (1, .ref (E.ad 0)), (0, .ref b)])
    (kk : ∀ (w2 : MW) (H : Heap) (locs : List Loc), LKz (100 * (i : Int) + 600) w2 → ∀ (ls : Array Slot), HR E w2 A s H locs → lv_has ls 4 [(3, .int (nI (i + 6))), (2, .ref (E.ad 127)), (1, .ref (E.ad 0)), (0, .ref b)] → W p l e room_1 s m #[Value.ref b] below meth c H locs 221 83122 (lw_Z below #[Value.ref b] s) (F0 m 18 ls [])) : W p l e room_1 s m #[Value.ref b] below meth c H locs 221 83122 (lw_Z below #[Value.ref b] s) (F0 m 911 ls []) := by
  obtain ⟨hx, hb, hml, hown, hts, hK, hG, hAs, hAc, hi2⟩ := id F
  refine lv_aload_n hx hb d_Lw_law_911 rfl (lv_at hl 2 rfl) ?_
  refine lv_aload_n hx hb d_Lw_law_912 rfl (lv_at hl 3 rfl) ?_
  refine lv_iload_n hx hb d_Lw_law_913 rfl (lv_at hl 0 rfl) ?_
  refine lv_iconst (v := 1) hx hb d_Lw_law_914 (by decide) ?_
  refine lv_iadd hx hb d_Lw_law_915 ?_
  refine lv_topi (fun x0 e0 => ?_)
  obtain rfl : x0 = nI (i + 1) := e0.trans (nI_p i 1)
  refine va_sld hx hb hX hbl hbA hH.2 (vp_in_nI (by omega) (by omega)) d_Lw_law_916 ?_
  refine lv_topi (fun y1 ey1 => ?_)
  refine lw_cv (ν := 24) (na := 1) (ci := 0) (idx := 96) (k := 0) (iv := (y_Bh_reset, b_Bh_reset, 3, (some .boolean))) (As := [.int y1]) (rest := []) F rfl rfl rfl mw_1499 mw_1500 mw_1501 mw_1 mw_1502 ⟨by decide +kernel, by decide +kernel, by decide +kernel⟩ (by decide) d_Lw_law_917 rfl rfl (Nat.le_of_ble_eq_true rfl) rfl (Nat.le_of_ble_eq_true rfl) (pz_reset (by omega) hw) hH hl (fun v w1 H locs hq hH => ?_)
  obtain ⟨r0, rfl, zz0, hT⟩ := hq
  refine W.eq (g2 := F0 m 920 ls [.int r0]) rfl ?_
  refine lv_aload_n hx hb d_Lw_law_920 rfl (lv_at hl 1 rfl) ?_
  refine lv_aload_n hx hb d_Lw_law_921 rfl (lv_at hl 3 rfl) ?_
  refine lv_iload_n hx hb d_Lw_law_922 rfl (lv_at hl 0 rfl) ?_
  refine lv_iconst (v := 1) hx hb d_Lw_law_923 (by decide) ?_
  refine lv_iadd hx hb d_Lw_law_924 ?_
  refine lv_topi (fun x0 e0 => ?_)
  obtain rfl : x0 = nI (i + 1) := e0.trans (nI_p i 1)
  refine va_sld hx hb hX hbl hbA hH.2 (vp_in_nI (by omega) (by omega)) d_Lw_law_925 ?_
  refine lv_topi (fun x0 e0 => ?_)
  obtain rfl : y1 = x0 := ey1.trans e0.symm
  refine lw_cv (ν := 100) (na := 1) (ci := 12) (idx := 100) (k := 127) (iv := (y_Mo_reset, b_Mo_reset, 2, (some .boolean))) (As := [.int y1]) (rest := [.int r0]) F rfl rfl rfl mw_2557 mw_2558 mw_2559 mw_18 mw_2560 ⟨by decide +kernel, by decide +kernel, by decide +kernel⟩ (by decide) d_Lw_law_926 rfl rfl (Nat.le_of_ble_eq_true rfl) rfl (Nat.le_of_ble_eq_true rfl) hT hH hl (fun v w2 H locs hq hH => ?_)
  obtain ⟨r1, rfl, zz1, hw2, heq⟩ := hq
  refine W.eq (g2 := F0 m 929 ls [.int r1, .int r0]) rfl ?_
  refine lv_icmp_eq (tgt := 1208) hx hb d_Lw_law_929 (by decide) (fun _ => ?_) (fun h => absurd heq h)
  exact lk_nx F hH hl (kk w2 _ _ hw2)
set_option maxHeartbeats 4000000 in
set_option maxRecDepth 100000 in
theorem lk_18 {E : EV} {p : Program} {e : Env} {s : State} {m : MethodId} {below : List Frame} {meth : Method} {c : Code} (l : Launch) {b L i : Nat} {xs : Nat → Int32} {H : Heap} {locs : List Loc} {ls : Array Slot} {A : Nat → Prop} {w : MW} (F : LwF E p s m c b A) (hX : va_X b L xs s s.heap) (hbl : b < s.heap.size) (hbA : ¬ A b) (hL : L ≤ 3072) (hi : i + 6 ≤ L) (hw : LKz (100 * (i : Int)) w) (hH : HR E w A s H locs) (hl : lv_has ls 4 [(3, .int (nI i)), (2, .ref (E.ad 127)), (1, .ref (E.ad 0)), (0, .ref b)])
    (kk : ∀ (w2 : MW) (H : Heap) (locs : List Loc), LKz (100 * (i : Int) + 600) w2 → ∀ (ls : Array Slot), HR E w2 A s H locs → lv_has ls 4 [(3, .int (nI (i + 6))), (2, .ref (E.ad 127)), (1, .ref (E.ad 0)), (0, .ref b)] → W p l e room_1 s m #[Value.ref b] below meth c H locs 221 83122 (lw_Z below #[Value.ref b] s) (F0 m 18 ls [])) : W p l e room_1 s m #[Value.ref b] below meth c H locs 221 83122 (lw_Z below #[Value.ref b] s) (F0 m 934 ls []) := by
  obtain ⟨hx, hb, hml, hown, hts, hK, hG, hAs, hAc, hi2⟩ := id F
  refine lv_aload_n hx hb d_Lw_law_934 rfl (lv_at hl 2 rfl) ?_
  refine lv_aload_n hx hb d_Lw_law_935 rfl (lv_at hl 3 rfl) ?_
  refine lv_iload_n hx hb d_Lw_law_936 rfl (lv_at hl 0 rfl) ?_
  refine lv_iconst (v := 1) hx hb d_Lw_law_937 (by decide) ?_
  refine lv_iadd hx hb d_Lw_law_938 ?_
  refine lv_topi (fun x0 e0 => ?_)
  obtain rfl : x0 = nI (i + 1) := e0.trans (nI_p i 1)
  refine va_sld hx hb hX hbl hbA hH.2 (vp_in_nI (by omega) (by omega)) d_Lw_law_939 ?_
  refine lv_topi (fun y1 ey1 => ?_)
  refine lw_cv (ν := 25) (na := 1) (ci := 0) (idx := 101) (k := 0) (iv := (y_Bh_bars, b_Bh_bars, 2, (some .int))) (As := [.int y1]) (rest := []) F rfl rfl rfl mw_1504 mw_1505 mw_1506 mw_1 mw_1507 ⟨by decide +kernel, by decide +kernel, by decide +kernel⟩ (by decide) d_Lw_law_940 rfl rfl (Nat.le_of_ble_eq_true rfl) rfl (Nat.le_of_ble_eq_true rfl) (pz_bars (by omega) hw) hH hl (fun v w1 H locs hq hH => ?_)
  obtain ⟨r0, rfl, hT⟩ := hq
  refine W.eq (g2 := F0 m 943 ls [.int r0]) rfl ?_
  refine lv_aload_n hx hb d_Lw_law_943 rfl (lv_at hl 1 rfl) ?_
  refine lv_aload_n hx hb d_Lw_law_944 rfl (lv_at hl 3 rfl) ?_
  refine lv_iload_n hx hb d_Lw_law_945 rfl (lv_at hl 0 rfl) ?_
  refine lv_iconst (v := 1) hx hb d_Lw_law_946 (by decide) ?_
  refine lv_iadd hx hb d_Lw_law_947 ?_
  refine lv_topi (fun x0 e0 => ?_)
  obtain rfl : x0 = nI (i + 1) := e0.trans (nI_p i 1)
  refine va_sld hx hb hX hbl hbA hH.2 (vp_in_nI (by omega) (by omega)) d_Lw_law_948 ?_
  refine lv_topi (fun x0 e0 => ?_)
  obtain rfl : y1 = x0 := ey1.trans e0.symm
  refine lw_cv (ν := 101) (na := 1) (ci := 12) (idx := 104) (k := 127) (iv := (y_Mo_bars, b_Mo_bars, 2, (some .int))) (As := [.int y1]) (rest := [.int r0]) F rfl rfl rfl mw_2565 mw_2566 mw_2567 mw_18 mw_2568 ⟨by decide +kernel, by decide +kernel, by decide +kernel⟩ (by decide) d_Lw_law_949 rfl rfl (Nat.le_of_ble_eq_true rfl) rfl (Nat.le_of_ble_eq_true rfl) hT hH hl (fun v w2 H locs hq hH => ?_)
  obtain ⟨r1, rfl, hw2, heq⟩ := hq
  refine W.eq (g2 := F0 m 952 ls [.int r1, .int r0]) rfl ?_
  refine lv_icmp_eq (tgt := 1208) hx hb d_Lw_law_952 (by decide) (fun _ => ?_) (fun h => absurd heq h)
  exact lk_nx F hH hl (kk w2 _ _ hw2)
set_option maxHeartbeats 4000000 in
set_option maxRecDepth 100000 in
theorem lk_19 {E : EV} {p : Program} {e : Env} {s : State} {m : MethodId} {below : List Frame} {meth : Method} {c : Code} (l : Launch) {b L i : Nat} {xs : Nat → Int32} {H : Heap} {locs : List Loc} {ls : Array Slot} {A : Nat → Prop} {w : MW} (F : LwF E p s m c b A) (hX : va_X b L xs s s.heap) (hbl : b < s.heap.size) (hbA : ¬ A b) (hL : L ≤ 3072) (hi : i + 6 ≤ L) (hw : LKz (100 * (i : Int)) w) (hH : HR E w A s H locs) (hl : lv_has ls 4 [(3, .int (nI i)), (2, .ref (E.ad 127)), (1, .ref (E.ad 0)), (0, .ref b)])
    (kk : ∀ (w2 : MW) (H : Heap) (locs : List Loc), LKz (100 * (i : Int) + 600) w2 → ∀ (ls : Array Slot), HR E w2 A s H locs → lv_has ls 4 [(3, .int (nI (i + 6))), (2, .ref (E.ad 127)), (1, .ref (E.ad 0)), (0, .ref b)] → W p l e room_1 s m #[Value.ref b] below meth c H locs 221 83122 (lw_Z below #[Value.ref b] s) (F0 m 18 ls [])) : W p l e room_1 s m #[Value.ref b] below meth c H locs 221 83122 (lw_Z below #[Value.ref b] s) (F0 m 957 ls []) := by
  obtain ⟨hx, hb, hml, hown, hts, hK, hG, hAs, hAc, hi2⟩ := id F
  refine lv_aload_n hx hb d_Lw_law_957 rfl (lv_at hl 2 rfl) ?_
  refine lv_aload_n hx hb d_Lw_law_958 rfl (lv_at hl 3 rfl) ?_
  refine lv_iload_n hx hb d_Lw_law_959 rfl (lv_at hl 0 rfl) ?_
  refine lv_iconst (v := 1) hx hb d_Lw_law_960 (by decide) ?_
  refine lv_iadd hx hb d_Lw_law_961 ?_
  refine lv_topi (fun x0 e0 => ?_)
  obtain rfl : x0 = nI (i + 1) := e0.trans (nI_p i 1)
  refine va_sld hx hb hX hbl hbA hH.2 (vp_in_nI (by omega) (by omega)) d_Lw_law_962 ?_
  refine lv_topi (fun y1 ey1 => ?_)
  refine lv_aload_n hx hb d_Lw_law_963 rfl (lv_at hl 3 rfl) ?_
  refine lv_iload_n hx hb d_Lw_law_964 rfl (lv_at hl 0 rfl) ?_
  refine lv_iconst (v := 2) hx hb d_Lw_law_965 (by decide) ?_
  refine lv_iadd hx hb d_Lw_law_966 ?_
  refine lv_topi (fun x0 e0 => ?_)
  obtain rfl : x0 = nI (i + 2) := e0.trans (nI_p i 2)
  refine va_sld hx hb hX hbl hbA hH.2 (vp_in_nI (by omega) (by omega)) d_Lw_law_967 ?_
  refine lv_topi (fun y2 ey2 => ?_)
  refine lw_cv (ν := 26) (na := 2) (ci := 0) (idx := 105) (k := 0) (iv := (y_Bh_row, b_Bh_row, 4, (some .int))) (As := [.int y1, .int y2]) (rest := []) F rfl rfl rfl mw_1509 mw_1510 mw_1511 mw_1 mw_1512 ⟨by decide +kernel, by decide +kernel, by decide +kernel⟩ (by decide) d_Lw_law_968 rfl rfl (Nat.le_of_ble_eq_true rfl) rfl (Nat.le_of_ble_eq_true rfl) (pz_row (by omega) hw) hH hl (fun v w1 H locs hq hH => ?_)
  obtain ⟨r0, rfl, hT⟩ := hq
  refine W.eq (g2 := F0 m 971 ls [.int r0]) rfl ?_
  refine lv_aload_n hx hb d_Lw_law_971 rfl (lv_at hl 1 rfl) ?_
  refine lv_aload_n hx hb d_Lw_law_972 rfl (lv_at hl 3 rfl) ?_
  refine lv_iload_n hx hb d_Lw_law_973 rfl (lv_at hl 0 rfl) ?_
  refine lv_iconst (v := 1) hx hb d_Lw_law_974 (by decide) ?_
  refine lv_iadd hx hb d_Lw_law_975 ?_
  refine lv_topi (fun x0 e0 => ?_)
  obtain rfl : x0 = nI (i + 1) := e0.trans (nI_p i 1)
  refine va_sld hx hb hX hbl hbA hH.2 (vp_in_nI (by omega) (by omega)) d_Lw_law_976 ?_
  refine lv_topi (fun x0 e0 => ?_)
  obtain rfl : y1 = x0 := ey1.trans e0.symm
  refine lv_aload_n hx hb d_Lw_law_977 rfl (lv_at hl 3 rfl) ?_
  refine lv_iload_n hx hb d_Lw_law_978 rfl (lv_at hl 0 rfl) ?_
  refine lv_iconst (v := 2) hx hb d_Lw_law_979 (by decide) ?_
  refine lv_iadd hx hb d_Lw_law_980 ?_
  refine lv_topi (fun x0 e0 => ?_)
  obtain rfl : x0 = nI (i + 2) := e0.trans (nI_p i 2)
  refine va_sld hx hb hX hbl hbA hH.2 (vp_in_nI (by omega) (by omega)) d_Lw_law_981 ?_
  refine lv_topi (fun x0 e0 => ?_)
  obtain rfl : y2 = x0 := ey2.trans e0.symm
  refine lw_cv (ν := 102) (na := 2) (ci := 12) (idx := 108) (k := 127) (iv := (y_Mo_row, b_Mo_row, 3, (some .int))) (As := [.int y1, .int y2]) (rest := [.int r0]) F rfl rfl rfl mw_2569 mw_2570 mw_2571 mw_18 mw_2572 ⟨by decide +kernel, by decide +kernel, by decide +kernel⟩ (by decide) d_Lw_law_982 rfl rfl (Nat.le_of_ble_eq_true rfl) rfl (Nat.le_of_ble_eq_true rfl) hT hH hl (fun v w2 H locs hq hH => ?_)
  obtain ⟨r1, rfl, hw2, heq⟩ := hq
  refine W.eq (g2 := F0 m 985 ls [.int r1, .int r0]) rfl ?_
  refine lv_icmp_eq (tgt := 1208) hx hb d_Lw_law_985 (by decide) (fun _ => ?_) (fun h => absurd heq h)
  exact lk_nx F hH hl (kk w2 _ _ hw2)
set_option maxHeartbeats 4000000 in
set_option maxRecDepth 100000 in
theorem lk_20 {E : EV} {p : Program} {e : Env} {s : State} {m : MethodId} {below : List Frame} {meth : Method} {c : Code} (l : Launch) {b L i : Nat} {xs : Nat → Int32} {H : Heap} {locs : List Loc} {ls : Array Slot} {A : Nat → Prop} {w : MW} (F : LwF E p s m c b A) (hX : va_X b L xs s s.heap) (hbl : b < s.heap.size) (hbA : ¬ A b) (hL : L ≤ 3072) (hi : i + 6 ≤ L) (hw : LKz (100 * (i : Int)) w) (hH : HR E w A s H locs) (hl : lv_has ls 4 [(3, .int (nI i)), (2, .ref (E.ad 127)), (1, .ref (E.ad 0)), (0, .ref b)])
    (kk : ∀ (w2 : MW) (H : Heap) (locs : List Loc), LKz (100 * (i : Int) + 600) w2 → ∀ (ls : Array Slot), HR E w2 A s H locs → lv_has ls 4 [(3, .int (nI (i + 6))), (2, .ref (E.ad 127)), (1, .ref (E.ad 0)), (0, .ref b)] → W p l e room_1 s m #[Value.ref b] below meth c H locs 221 83122 (lw_Z below #[Value.ref b] s) (F0 m 18 ls [])) : W p l e room_1 s m #[Value.ref b] below meth c H locs 221 83122 (lw_Z below #[Value.ref b] s) (F0 m 990 ls []) := by
  obtain ⟨hx, hb, hml, hown, hts, hK, hG, hAs, hAc, hi2⟩ := id F
  refine lv_aload_n hx hb d_Lw_law_990 rfl (lv_at hl 2 rfl) ?_
  refine lw_cv (ν := 27) (na := 0) (ci := 0) (idx := 109) (k := 0) (iv := (y_Bh_state, b_Bh_state, 1, (some .int))) (As := []) (rest := []) F rfl rfl rfl mw_1513 mw_1514 mw_1515 mw_1 mw_1516 ⟨by decide +kernel, by decide +kernel, by decide +kernel⟩ (by decide) d_Lw_law_991 rfl rfl (Nat.le_of_ble_eq_true rfl) rfl (Nat.le_of_ble_eq_true rfl) (pz_state (by omega) hw) hH hl (fun v w1 H locs hq hH => ?_)
  obtain ⟨r0, rfl, hT⟩ := hq
  refine W.eq (g2 := F0 m 994 ls [.int r0]) rfl ?_
  refine lv_aload_n hx hb d_Lw_law_994 rfl (lv_at hl 1 rfl) ?_
  refine lw_cv (ν := 122) (na := 0) (ci := 12) (idx := 113) (k := 127) (iv := (y_Mo_state, b_Mo_state, 1, (some .int))) (As := []) (rest := [.int r0]) F rfl rfl rfl mw_2683 mw_2684 mw_2685 mw_18 mw_2686 ⟨by decide +kernel, by decide +kernel, by decide +kernel⟩ (by decide) d_Lw_law_995 rfl rfl (Nat.le_of_ble_eq_true rfl) rfl (Nat.le_of_ble_eq_true rfl) hT hH hl (fun v w2 H locs hq hH => ?_)
  obtain ⟨r1, rfl, hw2, heq⟩ := hq
  refine W.eq (g2 := F0 m 998 ls [.int r1, .int r0]) rfl ?_
  refine lv_icmp_eq (tgt := 1208) hx hb d_Lw_law_998 (by decide) (fun _ => ?_) (fun h => absurd heq h)
  exact lk_nx F hH hl (kk w2 _ _ hw2)
set_option maxHeartbeats 4000000 in
set_option maxRecDepth 100000 in
theorem lk_21 {E : EV} {p : Program} {e : Env} {s : State} {m : MethodId} {below : List Frame} {meth : Method} {c : Code} (l : Launch) {b L i : Nat} {xs : Nat → Int32} {H : Heap} {locs : List Loc} {ls : Array Slot} {A : Nat → Prop} {w : MW} (F : LwF E p s m c b A) (hX : va_X b L xs s s.heap) (hbl : b < s.heap.size) (hbA : ¬ A b) (hL : L ≤ 3072) (hi : i + 6 ≤ L) (hw : LKz (100 * (i : Int)) w) (hH : HR E w A s H locs) (hl : lv_has ls 4 [(3, .int (nI i)), (2, .ref (E.ad 127)), (1, .ref (E.ad 0)), (0, .ref b)])
    (kk : ∀ (w2 : MW) (H : Heap) (locs : List Loc), LKz (100 * (i : Int) + 600) w2 → ∀ (ls : Array Slot), HR E w2 A s H locs → lv_has ls 4 [(3, .int (nI (i + 6))), (2, .ref (E.ad 127)), (1, .ref (E.ad 0)), (0, .ref b)] → W p l e room_1 s m #[Value.ref b] below meth c H locs 221 83122 (lw_Z below #[Value.ref b] s) (F0 m 18 ls [])) : W p l e room_1 s m #[Value.ref b] below meth c H locs 221 83122 (lw_Z below #[Value.ref b] s) (F0 m 1003 ls []) := by
  obtain ⟨hx, hb, hml, hown, hts, hK, hG, hAs, hAc, hi2⟩ := id F
  refine lv_aload_n hx hb d_Lw_law_1003 rfl (lv_at hl 2 rfl) ?_
  refine lv_aload_n hx hb d_Lw_law_1004 rfl (lv_at hl 3 rfl) ?_
  refine lv_iload_n hx hb d_Lw_law_1005 rfl (lv_at hl 0 rfl) ?_
  refine lv_iconst (v := 1) hx hb d_Lw_law_1006 (by decide) ?_
  refine lv_iadd hx hb d_Lw_law_1007 ?_
  refine lv_topi (fun x0 e0 => ?_)
  obtain rfl : x0 = nI (i + 1) := e0.trans (nI_p i 1)
  refine va_sld hx hb hX hbl hbA hH.2 (vp_in_nI (by omega) (by omega)) d_Lw_law_1008 ?_
  refine lv_topi (fun y1 ey1 => ?_)
  refine lw_cv (ν := 28) (na := 1) (ci := 0) (idx := 114) (k := 0) (iv := (y_Bh_value, b_Bh_value, 2, (some .long))) (As := [.int y1]) (rest := []) F rfl rfl rfl mw_1517 mw_1518 mw_1519 mw_1 mw_1520 ⟨by decide +kernel, by decide +kernel, by decide +kernel⟩ (by decide) d_Lw_law_1009 rfl rfl (Nat.le_of_ble_eq_true rfl) rfl (Nat.le_of_ble_eq_true rfl) (pz_value (by omega) hw) hH hl (fun v w1 H locs hq hH => ?_)
  obtain ⟨r0, rfl, hT⟩ := hq
  refine W.eq (g2 := F0 m 1012 ls [.long r0]) rfl ?_
  refine lv_aload_n hx hb d_Lw_law_1012 rfl (lv_at hl 1 rfl) ?_
  refine lv_aload_n hx hb d_Lw_law_1013 rfl (lv_at hl 3 rfl) ?_
  refine lv_iload_n hx hb d_Lw_law_1014 rfl (lv_at hl 0 rfl) ?_
  refine lv_iconst (v := 1) hx hb d_Lw_law_1015 (by decide) ?_
  refine lv_iadd hx hb d_Lw_law_1016 ?_
  refine lv_topi (fun x0 e0 => ?_)
  obtain rfl : x0 = nI (i + 1) := e0.trans (nI_p i 1)
  refine va_sld hx hb hX hbl hbA hH.2 (vp_in_nI (by omega) (by omega)) d_Lw_law_1017 ?_
  refine lv_topi (fun x0 e0 => ?_)
  obtain rfl : y1 = x0 := ey1.trans e0.symm
  refine lw_cv (ν := 96) (na := 1) (ci := 12) (idx := 118) (k := 127) (iv := (y_Mo_value, b_Mo_value, 2, (some .long))) (As := [.int y1]) (rest := [.long r0]) F rfl rfl rfl mw_2541 mw_2542 mw_2543 mw_18 mw_2544 ⟨by decide +kernel, by decide +kernel, by decide +kernel⟩ (by decide) d_Lw_law_1018 rfl rfl (Nat.le_of_ble_eq_true rfl) rfl (Nat.le_of_ble_eq_true rfl) hT hH hl (fun v w2 H locs hq hH => ?_)
  obtain ⟨r1, rfl, hw2, heq⟩ := hq
  refine W.eq (g2 := F0 m 1021 ls [.long r1, .long r0]) rfl ?_
  subst heq
  refine W.lcmp hx hb d_Lw_law_1021 ?_
  refine lv_if_eq (tgt := 1208) hx hb d_Lw_law_1022 (by decide) (fun _ => ?_) (fun h => absurd (lcmp_self _) h)
  exact lk_nx F hH hl (kk w2 _ _ hw2)
set_option maxHeartbeats 4000000 in
set_option maxRecDepth 100000 in
theorem lk_22 {E : EV} {p : Program} {e : Env} {s : State} {m : MethodId} {below : List Frame} {meth : Method} {c : Code} (l : Launch) {b L i : Nat} {xs : Nat → Int32} {H : Heap} {locs : List Loc} {ls : Array Slot} {A : Nat → Prop} {w : MW} (F : LwF E p s m c b A) (hX : va_X b L xs s s.heap) (hbl : b < s.heap.size) (hbA : ¬ A b) (hL : L ≤ 3072) (hi : i + 6 ≤ L) (hw : LKz (100 * (i : Int)) w) (hH : HR E w A s H locs) (hl : lv_has ls 4 [(3, .int (nI i)), (2, .ref (E.ad 127)), (1, .ref (E.ad 0)), (0, .ref b)])
    (kk : ∀ (w2 : MW) (H : Heap) (locs : List Loc), LKz (100 * (i : Int) + 600) w2 → ∀ (ls : Array Slot), HR E w2 A s H locs → lv_has ls 4 [(3, .int (nI (i + 6))), (2, .ref (E.ad 127)), (1, .ref (E.ad 0)), (0, .ref b)] → W p l e room_1 s m #[Value.ref b] below meth c H locs 221 83122 (lw_Z below #[Value.ref b] s) (F0 m 18 ls [])) : W p l e room_1 s m #[Value.ref b] below meth c H locs 221 83122 (lw_Z below #[Value.ref b] s) (F0 m 1027 ls []) := by
  obtain ⟨hx, hb, hml, hown, hts, hK, hG, hAs, hAc, hi2⟩ := id F
  refine lv_aload_n hx hb d_Lw_law_1027 rfl (lv_at hl 2 rfl) ?_
  refine lv_aload_n hx hb d_Lw_law_1028 rfl (lv_at hl 3 rfl) ?_
  refine lv_iload_n hx hb d_Lw_law_1029 rfl (lv_at hl 0 rfl) ?_
  refine lv_iconst (v := 1) hx hb d_Lw_law_1030 (by decide) ?_
  refine lv_iadd hx hb d_Lw_law_1031 ?_
  refine lv_topi (fun x0 e0 => ?_)
  obtain rfl : x0 = nI (i + 1) := e0.trans (nI_p i 1)
  refine va_sld hx hb hX hbl hbA hH.2 (vp_in_nI (by omega) (by omega)) d_Lw_law_1032 ?_
  refine lv_topi (fun y1 ey1 => ?_)
  refine lw_cv (ν := 29) (na := 1) (ci := 0) (idx := 119) (k := 0) (iv := (y_Bh_still, b_Bh_still, 2, (some .int))) (As := [.int y1]) (rest := []) F rfl rfl rfl mw_1522 mw_1523 mw_1524 mw_1 mw_1525 ⟨by decide +kernel, by decide +kernel, by decide +kernel⟩ (by decide) d_Lw_law_1033 rfl rfl (Nat.le_of_ble_eq_true rfl) rfl (Nat.le_of_ble_eq_true rfl) (pz_still (by omega) hw) hH hl (fun v w1 H locs hq hH => ?_)
  obtain ⟨r0, rfl, hT⟩ := hq
  refine W.eq (g2 := F0 m 1036 ls [.int r0]) rfl ?_
  refine lv_aload_n hx hb d_Lw_law_1036 rfl (lv_at hl 1 rfl) ?_
  refine lv_aload_n hx hb d_Lw_law_1037 rfl (lv_at hl 3 rfl) ?_
  refine lv_iload_n hx hb d_Lw_law_1038 rfl (lv_at hl 0 rfl) ?_
  refine lv_iconst (v := 1) hx hb d_Lw_law_1039 (by decide) ?_
  refine lv_iadd hx hb d_Lw_law_1040 ?_
  refine lv_topi (fun x0 e0 => ?_)
  obtain rfl : x0 = nI (i + 1) := e0.trans (nI_p i 1)
  refine va_sld hx hb hX hbl hbA hH.2 (vp_in_nI (by omega) (by omega)) d_Lw_law_1041 ?_
  refine lv_topi (fun x0 e0 => ?_)
  obtain rfl : y1 = x0 := ey1.trans e0.symm
  refine lw_cv (ν := 123) (na := 1) (ci := 12) (idx := 122) (k := 127) (iv := (y_Mo_still, b_Mo_still, 3, (some .int))) (As := [.int y1]) (rest := [.int r0]) F rfl rfl rfl mw_2687 mw_2688 mw_2689 mw_18 mw_2690 ⟨by decide +kernel, by decide +kernel, by decide +kernel⟩ (by decide) d_Lw_law_1042 rfl rfl (Nat.le_of_ble_eq_true rfl) rfl (Nat.le_of_ble_eq_true rfl) hT hH hl (fun v w2 H locs hq hH => ?_)
  obtain ⟨r1, rfl, hw2, heq⟩ := hq
  refine W.eq (g2 := F0 m 1045 ls [.int r1, .int r0]) rfl ?_
  refine lv_icmp_eq (tgt := 1208) hx hb d_Lw_law_1045 (by decide) (fun _ => ?_) (fun h => absurd heq h)
  exact lk_nx F hH hl (kk w2 _ _ hw2)
set_option maxHeartbeats 4000000 in
set_option maxRecDepth 100000 in
theorem lk_23 {E : EV} {p : Program} {e : Env} {s : State} {m : MethodId} {below : List Frame} {meth : Method} {c : Code} (l : Launch) {b L i : Nat} {xs : Nat → Int32} {H : Heap} {locs : List Loc} {ls : Array Slot} {A : Nat → Prop} {w : MW} (F : LwF E p s m c b A) (hX : va_X b L xs s s.heap) (hbl : b < s.heap.size) (hbA : ¬ A b) (hL : L ≤ 3072) (hi : i + 6 ≤ L) (hw : LKz (100 * (i : Int)) w) (hH : HR E w A s H locs) (hl : lv_has ls 4 [(3, .int (nI i)), (2, .ref (E.ad 127)), (1, .ref (E.ad 0)), (0, .ref b)])
    (kk : ∀ (w2 : MW) (H : Heap) (locs : List Loc), LKz (100 * (i : Int) + 600) w2 → ∀ (ls : Array Slot), HR E w2 A s H locs → lv_has ls 4 [(3, .int (nI (i + 6))), (2, .ref (E.ad 127)), (1, .ref (E.ad 0)), (0, .ref b)] → W p l e room_1 s m #[Value.ref b] below meth c H locs 221 83122 (lw_Z below #[Value.ref b] s) (F0 m 18 ls [])) : W p l e room_1 s m #[Value.ref b] below meth c H locs 221 83122 (lw_Z below #[Value.ref b] s) (F0 m 1050 ls []) := by
  obtain ⟨hx, hb, hml, hown, hts, hK, hG, hAs, hAc, hi2⟩ := id F
  refine lv_aload_n hx hb d_Lw_law_1050 rfl (lv_at hl 2 rfl) ?_
  refine lv_aload_n hx hb d_Lw_law_1051 rfl (lv_at hl 3 rfl) ?_
  refine lv_iload_n hx hb d_Lw_law_1052 rfl (lv_at hl 0 rfl) ?_
  refine lv_iconst (v := 1) hx hb d_Lw_law_1053 (by decide) ?_
  refine lv_iadd hx hb d_Lw_law_1054 ?_
  refine lv_topi (fun x0 e0 => ?_)
  obtain rfl : x0 = nI (i + 1) := e0.trans (nI_p i 1)
  refine va_sld hx hb hX hbl hbA hH.2 (vp_in_nI (by omega) (by omega)) d_Lw_law_1055 ?_
  refine lv_topi (fun y1 ey1 => ?_)
  refine lv_aload_n hx hb d_Lw_law_1056 rfl (lv_at hl 3 rfl) ?_
  refine lv_iload_n hx hb d_Lw_law_1057 rfl (lv_at hl 0 rfl) ?_
  refine lv_iconst (v := 2) hx hb d_Lw_law_1058 (by decide) ?_
  refine lv_iadd hx hb d_Lw_law_1059 ?_
  refine lv_topi (fun x0 e0 => ?_)
  obtain rfl : x0 = nI (i + 2) := e0.trans (nI_p i 2)
  refine va_sld hx hb hX hbl hbA hH.2 (vp_in_nI (by omega) (by omega)) d_Lw_law_1060 ?_
  refine lv_topi (fun y2 ey2 => ?_)
  refine lw_cv (ν := 30) (na := 2) (ci := 0) (idx := 123) (k := 0) (iv := (y_Bh_alarm, b_Bh_alarm, 3, (some .int))) (As := [.int y1, .int y2]) (rest := []) F rfl rfl rfl mw_1531 mw_1532 mw_1533 mw_1 mw_1534 ⟨by decide +kernel, by decide +kernel, by decide +kernel⟩ (by decide) d_Lw_law_1061 rfl rfl (Nat.le_of_ble_eq_true rfl) rfl (Nat.le_of_ble_eq_true rfl) (pz_alarm (by omega) hw) hH hl (fun v w1 H locs hq hH => ?_)
  obtain ⟨r0, rfl, hT⟩ := hq
  refine W.eq (g2 := F0 m 1064 ls [.int r0]) rfl ?_
  refine lv_aload_n hx hb d_Lw_law_1064 rfl (lv_at hl 1 rfl) ?_
  refine lv_aload_n hx hb d_Lw_law_1065 rfl (lv_at hl 3 rfl) ?_
  refine lv_iload_n hx hb d_Lw_law_1066 rfl (lv_at hl 0 rfl) ?_
  refine lv_iconst (v := 1) hx hb d_Lw_law_1067 (by decide) ?_
  refine lv_iadd hx hb d_Lw_law_1068 ?_
  refine lv_topi (fun x0 e0 => ?_)
  obtain rfl : x0 = nI (i + 1) := e0.trans (nI_p i 1)
  refine va_sld hx hb hX hbl hbA hH.2 (vp_in_nI (by omega) (by omega)) d_Lw_law_1069 ?_
  refine lv_topi (fun x0 e0 => ?_)
  obtain rfl : y1 = x0 := ey1.trans e0.symm
  refine lv_aload_n hx hb d_Lw_law_1070 rfl (lv_at hl 3 rfl) ?_
  refine lv_iload_n hx hb d_Lw_law_1071 rfl (lv_at hl 0 rfl) ?_
  refine lv_iconst (v := 2) hx hb d_Lw_law_1072 (by decide) ?_
  refine lv_iadd hx hb d_Lw_law_1073 ?_
  refine lv_topi (fun x0 e0 => ?_)
  obtain rfl : x0 = nI (i + 2) := e0.trans (nI_p i 2)
  refine va_sld hx hb hX hbl hbA hH.2 (vp_in_nI (by omega) (by omega)) d_Lw_law_1074 ?_
  refine lv_topi (fun x0 e0 => ?_)
  obtain rfl : y2 = x0 := ey2.trans e0.symm
  refine lw_cv (ν := 124) (na := 2) (ci := 12) (idx := 126) (k := 127) (iv := (y_Mo_alarm, b_Mo_alarm, 3, (some .int))) (As := [.int y1, .int y2]) (rest := [.int r0]) F rfl rfl rfl mw_2691 mw_2692 mw_2693 mw_18 mw_2694 ⟨by decide +kernel, by decide +kernel, by decide +kernel⟩ (by decide) d_Lw_law_1075 rfl rfl (Nat.le_of_ble_eq_true rfl) rfl (Nat.le_of_ble_eq_true rfl) hT hH hl (fun v w2 H locs hq hH => ?_)
  obtain ⟨r1, rfl, hw2, heq⟩ := hq
  refine W.eq (g2 := F0 m 1078 ls [.int r1, .int r0]) rfl ?_
  refine lv_icmp_eq (tgt := 1208) hx hb d_Lw_law_1078 (by decide) (fun _ => ?_) (fun h => absurd heq h)
  exact lk_nx F hH hl (kk w2 _ _ hw2)
set_option maxHeartbeats 4000000 in
set_option maxRecDepth 100000 in
theorem lk_24 {E : EV} {p : Program} {e : Env} {s : State} {m : MethodId} {below : List Frame} {meth : Method} {c : Code} (l : Launch) {b L i : Nat} {xs : Nat → Int32} {H : Heap} {locs : List Loc} {ls : Array Slot} {A : Nat → Prop} {w : MW} (F : LwF E p s m c b A) (hX : va_X b L xs s s.heap) (hbl : b < s.heap.size) (hbA : ¬ A b) (hL : L ≤ 3072) (hi : i + 6 ≤ L) (hw : LKz (100 * (i : Int)) w) (hH : HR E w A s H locs) (hl : lv_has ls 4 [(3, .int (nI i)), (2, .ref (E.ad 127)), (1, .ref (E.ad 0)), (0, .ref b)])
    (kk : ∀ (w2 : MW) (H : Heap) (locs : List Loc), LKz (100 * (i : Int) + 600) w2 → ∀ (ls : Array Slot), HR E w2 A s H locs → lv_has ls 4 [(3, .int (nI (i + 6))), (2, .ref (E.ad 127)), (1, .ref (E.ad 0)), (0, .ref b)] → W p l e room_1 s m #[Value.ref b] below meth c H locs 221 83122 (lw_Z below #[Value.ref b] s) (F0 m 18 ls [])) : W p l e room_1 s m #[Value.ref b] below meth c H locs 221 83122 (lw_Z below #[Value.ref b] s) (F0 m 1083 ls []) := by
  obtain ⟨hx, hb, hml, hown, hts, hK, hG, hAs, hAc, hi2⟩ := id F
  refine lv_aload_n hx hb d_Lw_law_1083 rfl (lv_at hl 2 rfl) ?_
  refine lv_aload_n hx hb d_Lw_law_1084 rfl (lv_at hl 3 rfl) ?_
  refine lv_iload_n hx hb d_Lw_law_1085 rfl (lv_at hl 0 rfl) ?_
  refine lv_iconst (v := 1) hx hb d_Lw_law_1086 (by decide) ?_
  refine lv_iadd hx hb d_Lw_law_1087 ?_
  refine lv_topi (fun x0 e0 => ?_)
  obtain rfl : x0 = nI (i + 1) := e0.trans (nI_p i 1)
  refine va_sld hx hb hX hbl hbA hH.2 (vp_in_nI (by omega) (by omega)) d_Lw_law_1088 ?_
  refine lv_topi (fun y1 ey1 => ?_)
  refine lv_aload_n hx hb d_Lw_law_1089 rfl (lv_at hl 3 rfl) ?_
  refine lv_iload_n hx hb d_Lw_law_1090 rfl (lv_at hl 0 rfl) ?_
  refine lv_iconst (v := 2) hx hb d_Lw_law_1091 (by decide) ?_
  refine lv_iadd hx hb d_Lw_law_1092 ?_
  refine lv_topi (fun x0 e0 => ?_)
  obtain rfl : x0 = nI (i + 2) := e0.trans (nI_p i 2)
  refine va_sld hx hb hX hbl hbA hH.2 (vp_in_nI (by omega) (by omega)) d_Lw_law_1093 ?_
  refine lv_topi (fun y2 ey2 => ?_)
  refine lw_cv (ν := 31) (na := 2) (ci := 0) (idx := 127) (k := 0) (iv := (y_Bh_way, b_Bh_way, 3, (some .int))) (As := [.int y1, .int y2]) (rest := []) F rfl rfl rfl mw_1539 mw_1540 mw_1541 mw_1 mw_1542 ⟨by decide +kernel, by decide +kernel, by decide +kernel⟩ (by decide) d_Lw_law_1094 rfl rfl (Nat.le_of_ble_eq_true rfl) rfl (Nat.le_of_ble_eq_true rfl) (pz_way (by omega) hw) hH hl (fun v w1 H locs hq hH => ?_)
  obtain ⟨r0, rfl, hT⟩ := hq
  refine W.eq (g2 := F0 m 1097 ls [.int r0]) rfl ?_
  refine lv_aload_n hx hb d_Lw_law_1097 rfl (lv_at hl 1 rfl) ?_
  refine lv_aload_n hx hb d_Lw_law_1098 rfl (lv_at hl 3 rfl) ?_
  refine lv_iload_n hx hb d_Lw_law_1099 rfl (lv_at hl 0 rfl) ?_
  refine lv_iconst (v := 1) hx hb d_Lw_law_1100 (by decide) ?_
  refine lv_iadd hx hb d_Lw_law_1101 ?_
  refine lv_topi (fun x0 e0 => ?_)
  obtain rfl : x0 = nI (i + 1) := e0.trans (nI_p i 1)
  refine va_sld hx hb hX hbl hbA hH.2 (vp_in_nI (by omega) (by omega)) d_Lw_law_1102 ?_
  refine lv_topi (fun x0 e0 => ?_)
  obtain rfl : y1 = x0 := ey1.trans e0.symm
  refine lv_aload_n hx hb d_Lw_law_1103 rfl (lv_at hl 3 rfl) ?_
  refine lv_iload_n hx hb d_Lw_law_1104 rfl (lv_at hl 0 rfl) ?_
  refine lv_iconst (v := 2) hx hb d_Lw_law_1105 (by decide) ?_
  refine lv_iadd hx hb d_Lw_law_1106 ?_
  refine lv_topi (fun x0 e0 => ?_)
  obtain rfl : x0 = nI (i + 2) := e0.trans (nI_p i 2)
  refine va_sld hx hb hX hbl hbA hH.2 (vp_in_nI (by omega) (by omega)) d_Lw_law_1107 ?_
  refine lv_topi (fun x0 e0 => ?_)
  obtain rfl : y2 = x0 := ey2.trans e0.symm
  refine lw_cv (ν := 82) (na := 2) (ci := 12) (idx := 130) (k := 127) (iv := (y_Mo_way, b_Mo_way, 3, (some .int))) (As := [.int y1, .int y2]) (rest := [.int r0]) F rfl rfl rfl mw_2404 mw_2405 mw_2406 mw_18 mw_2407 ⟨by decide +kernel, by decide +kernel, by decide +kernel⟩ (by decide) d_Lw_law_1108 rfl rfl (Nat.le_of_ble_eq_true rfl) rfl (Nat.le_of_ble_eq_true rfl) hT hH hl (fun v w2 H locs hq hH => ?_)
  obtain ⟨r1, rfl, hw2, heq⟩ := hq
  refine W.eq (g2 := F0 m 1111 ls [.int r1, .int r0]) rfl ?_
  refine lv_icmp_eq (tgt := 1208) hx hb d_Lw_law_1111 (by decide) (fun _ => ?_) (fun h => absurd heq h)
  exact lk_nx F hH hl (kk w2 _ _ hw2)
set_option maxHeartbeats 4000000 in
set_option maxRecDepth 100000 in
theorem lk_25 {E : EV} {p : Program} {e : Env} {s : State} {m : MethodId} {below : List Frame} {meth : Method} {c : Code} (l : Launch) {b L i : Nat} {xs : Nat → Int32} {H : Heap} {locs : List Loc} {ls : Array Slot} {A : Nat → Prop} {w : MW} (F : LwF E p s m c b A) (hX : va_X b L xs s s.heap) (hbl : b < s.heap.size) (hbA : ¬ A b) (hL : L ≤ 3072) (hi : i + 6 ≤ L) (hw : LKz (100 * (i : Int)) w) (hH : HR E w A s H locs) (hl : lv_has ls 4 [(3, .int (nI i)), (2, .ref (E.ad 127)), (1, .ref (E.ad 0)), (0, .ref b)])
    (kk : ∀ (w2 : MW) (H : Heap) (locs : List Loc), LKz (100 * (i : Int) + 600) w2 → ∀ (ls : Array Slot), HR E w2 A s H locs → lv_has ls 4 [(3, .int (nI (i + 6))), (2, .ref (E.ad 127)), (1, .ref (E.ad 0)), (0, .ref b)] → W p l e room_1 s m #[Value.ref b] below meth c H locs 221 83122 (lw_Z below #[Value.ref b] s) (F0 m 18 ls [])) : W p l e room_1 s m #[Value.ref b] below meth c H locs 221 83122 (lw_Z below #[Value.ref b] s) (F0 m 1116 ls []) := by
  obtain ⟨hx, hb, hml, hown, hts, hK, hG, hAs, hAc, hi2⟩ := id F
  refine lv_aload_n hx hb d_Lw_law_1116 rfl (lv_at hl 2 rfl) ?_
  refine lv_aload_n hx hb d_Lw_law_1117 rfl (lv_at hl 3 rfl) ?_
  refine lv_iload_n hx hb d_Lw_law_1118 rfl (lv_at hl 0 rfl) ?_
  refine lv_iconst (v := 1) hx hb d_Lw_law_1119 (by decide) ?_
  refine lv_iadd hx hb d_Lw_law_1120 ?_
  refine lv_topi (fun x0 e0 => ?_)
  obtain rfl : x0 = nI (i + 1) := e0.trans (nI_p i 1)
  refine va_sld hx hb hX hbl hbA hH.2 (vp_in_nI (by omega) (by omega)) d_Lw_law_1121 ?_
  refine lv_topi (fun y1 ey1 => ?_)
  refine lv_aload_n hx hb d_Lw_law_1122 rfl (lv_at hl 3 rfl) ?_
  refine lv_iload_n hx hb d_Lw_law_1123 rfl (lv_at hl 0 rfl) ?_
  refine lv_iconst (v := 2) hx hb d_Lw_law_1124 (by decide) ?_
  refine lv_iadd hx hb d_Lw_law_1125 ?_
  refine lv_topi (fun x0 e0 => ?_)
  obtain rfl : x0 = nI (i + 2) := e0.trans (nI_p i 2)
  refine va_sld hx hb hX hbl hbA hH.2 (vp_in_nI (by omega) (by omega)) d_Lw_law_1126 ?_
  refine lv_topi (fun y2 ey2 => ?_)
  refine lw_cv (ν := 32) (na := 2) (ci := 0) (idx := 131) (k := 0) (iv := (y_Bh_space, b_Bh_space, 3, (some .int))) (As := [.int y1, .int y2]) (rest := []) F rfl rfl rfl mw_1547 mw_1548 mw_1549 mw_1 mw_1550 ⟨by decide +kernel, by decide +kernel, by decide +kernel⟩ (by decide) d_Lw_law_1127 rfl rfl (Nat.le_of_ble_eq_true rfl) rfl (Nat.le_of_ble_eq_true rfl) (pz_space (by omega) hw) hH hl (fun v w1 H locs hq hH => ?_)
  obtain ⟨r0, rfl, hT⟩ := hq
  refine W.eq (g2 := F0 m 1130 ls [.int r0]) rfl ?_
  refine lv_aload_n hx hb d_Lw_law_1130 rfl (lv_at hl 1 rfl) ?_
  refine lv_aload_n hx hb d_Lw_law_1131 rfl (lv_at hl 3 rfl) ?_
  refine lv_iload_n hx hb d_Lw_law_1132 rfl (lv_at hl 0 rfl) ?_
  refine lv_iconst (v := 1) hx hb d_Lw_law_1133 (by decide) ?_
  refine lv_iadd hx hb d_Lw_law_1134 ?_
  refine lv_topi (fun x0 e0 => ?_)
  obtain rfl : x0 = nI (i + 1) := e0.trans (nI_p i 1)
  refine va_sld hx hb hX hbl hbA hH.2 (vp_in_nI (by omega) (by omega)) d_Lw_law_1135 ?_
  refine lv_topi (fun x0 e0 => ?_)
  obtain rfl : y1 = x0 := ey1.trans e0.symm
  refine lv_aload_n hx hb d_Lw_law_1136 rfl (lv_at hl 3 rfl) ?_
  refine lv_iload_n hx hb d_Lw_law_1137 rfl (lv_at hl 0 rfl) ?_
  refine lv_iconst (v := 2) hx hb d_Lw_law_1138 (by decide) ?_
  refine lv_iadd hx hb d_Lw_law_1139 ?_
  refine lv_topi (fun x0 e0 => ?_)
  obtain rfl : x0 = nI (i + 2) := e0.trans (nI_p i 2)
  refine va_sld hx hb hX hbl hbA hH.2 (vp_in_nI (by omega) (by omega)) d_Lw_law_1140 ?_
  refine lv_topi (fun x0 e0 => ?_)
  obtain rfl : y2 = x0 := ey2.trans e0.symm
  refine lw_cv (ν := 83) (na := 2) (ci := 12) (idx := 134) (k := 127) (iv := (y_Mo_space, b_Mo_space, 3, (some .int))) (As := [.int y1, .int y2]) (rest := [.int r0]) F rfl rfl rfl mw_2408 mw_2409 mw_2410 mw_18 mw_2411 ⟨by decide +kernel, by decide +kernel, by decide +kernel⟩ (by decide) d_Lw_law_1141 rfl rfl (Nat.le_of_ble_eq_true rfl) rfl (Nat.le_of_ble_eq_true rfl) hT hH hl (fun v w2 H locs hq hH => ?_)
  obtain ⟨r1, rfl, hw2, heq⟩ := hq
  refine W.eq (g2 := F0 m 1144 ls [.int r1, .int r0]) rfl ?_
  refine lv_icmp_eq (tgt := 1208) hx hb d_Lw_law_1144 (by decide) (fun _ => ?_) (fun h => absurd heq h)
  exact lk_nx F hH hl (kk w2 _ _ hw2)
set_option maxHeartbeats 4000000 in
set_option maxRecDepth 100000 in
theorem lk_26 {E : EV} {p : Program} {e : Env} {s : State} {m : MethodId} {below : List Frame} {meth : Method} {c : Code} (l : Launch) {b L i : Nat} {xs : Nat → Int32} {H : Heap} {locs : List Loc} {ls : Array Slot} {A : Nat → Prop} {w : MW} (F : LwF E p s m c b A) (hX : va_X b L xs s s.heap) (hbl : b < s.heap.size) (hbA : ¬ A b) (hL : L ≤ 3072) (hi : i + 6 ≤ L) (hw : LKz (100 * (i : Int)) w) (hH : HR E w A s H locs) (hl : lv_has ls 4 [(3, .int (nI i)), (2, .ref (E.ad 127)), (1, .ref (E.ad 0)), (0, .ref b)])
    (kk : ∀ (w2 : MW) (H : Heap) (locs : List Loc), LKz (100 * (i : Int) + 600) w2 → ∀ (ls : Array Slot), HR E w2 A s H locs → lv_has ls 4 [(3, .int (nI (i + 6))), (2, .ref (E.ad 127)), (1, .ref (E.ad 0)), (0, .ref b)] → W p l e room_1 s m #[Value.ref b] below meth c H locs 221 83122 (lw_Z below #[Value.ref b] s) (F0 m 18 ls [])) : W p l e room_1 s m #[Value.ref b] below meth c H locs 221 83122 (lw_Z below #[Value.ref b] s) (F0 m 1149 ls []) := by
  obtain ⟨hx, hb, hml, hown, hts, hK, hG, hAs, hAc, hi2⟩ := id F
  refine lv_aload_n hx hb d_Lw_law_1149 rfl (lv_at hl 2 rfl) ?_
  refine lv_aload_n hx hb d_Lw_law_1150 rfl (lv_at hl 3 rfl) ?_
  refine lv_iload_n hx hb d_Lw_law_1151 rfl (lv_at hl 0 rfl) ?_
  refine lv_iconst (v := 1) hx hb d_Lw_law_1152 (by decide) ?_
  refine lv_iadd hx hb d_Lw_law_1153 ?_
  refine lv_topi (fun x0 e0 => ?_)
  obtain rfl : x0 = nI (i + 1) := e0.trans (nI_p i 1)
  refine va_sld hx hb hX hbl hbA hH.2 (vp_in_nI (by omega) (by omega)) d_Lw_law_1154 ?_
  refine lv_topi (fun y1 ey1 => ?_)
  refine lw_cv (ν := 33) (na := 1) (ci := 0) (idx := 135) (k := 0) (iv := (y_Bh_danger, b_Bh_danger, 3, (some .int))) (As := [.int y1]) (rest := []) F rfl rfl rfl mw_1555 mw_1556 mw_1557 mw_1 mw_1558 ⟨by decide +kernel, by decide +kernel, by decide +kernel⟩ (by decide) d_Lw_law_1155 rfl rfl (Nat.le_of_ble_eq_true rfl) rfl (Nat.le_of_ble_eq_true rfl) (pz_danger (by omega) hw) hH hl (fun v w1 H locs hq hH => ?_)
  obtain ⟨r0, rfl, hT⟩ := hq
  refine W.eq (g2 := F0 m 1158 ls [.int r0]) rfl ?_
  refine lv_aload_n hx hb d_Lw_law_1158 rfl (lv_at hl 1 rfl) ?_
  refine lv_aload_n hx hb d_Lw_law_1159 rfl (lv_at hl 3 rfl) ?_
  refine lv_iload_n hx hb d_Lw_law_1160 rfl (lv_at hl 0 rfl) ?_
  refine lv_iconst (v := 1) hx hb d_Lw_law_1161 (by decide) ?_
  refine lv_iadd hx hb d_Lw_law_1162 ?_
  refine lv_topi (fun x0 e0 => ?_)
  obtain rfl : x0 = nI (i + 1) := e0.trans (nI_p i 1)
  refine va_sld hx hb hX hbl hbA hH.2 (vp_in_nI (by omega) (by omega)) d_Lw_law_1163 ?_
  refine lv_topi (fun x0 e0 => ?_)
  obtain rfl : y1 = x0 := ey1.trans e0.symm
  refine lw_cv (ν := 70) (na := 1) (ci := 12) (idx := 138) (k := 127) (iv := (y_Mo_danger, b_Mo_danger, 2, (some .int))) (As := [.int y1]) (rest := [.int r0]) F rfl rfl rfl mw_2365 mw_2366 mw_2367 mw_18 mw_2368 ⟨by decide +kernel, by decide +kernel, by decide +kernel⟩ (by decide) d_Lw_law_1164 rfl rfl (Nat.le_of_ble_eq_true rfl) rfl (Nat.le_of_ble_eq_true rfl) hT hH hl (fun v w2 H locs hq hH => ?_)
  obtain ⟨r1, rfl, hw2, heq⟩ := hq
  refine W.eq (g2 := F0 m 1167 ls [.int r1, .int r0]) rfl ?_
  refine lv_icmp_eq (tgt := 1208) hx hb d_Lw_law_1167 (by decide) (fun _ => ?_) (fun h => absurd heq h)
  exact lk_nx F hH hl (kk w2 _ _ hw2)
set_option maxHeartbeats 4000000 in
set_option maxRecDepth 100000 in
theorem lk_27 {E : EV} {p : Program} {e : Env} {s : State} {m : MethodId} {below : List Frame} {meth : Method} {c : Code} (l : Launch) {b L i : Nat} {xs : Nat → Int32} {H : Heap} {locs : List Loc} {ls : Array Slot} {A : Nat → Prop} {w : MW} (F : LwF E p s m c b A) (hX : va_X b L xs s s.heap) (hbl : b < s.heap.size) (hbA : ¬ A b) (hL : L ≤ 3072) (hi : i + 6 ≤ L) (hw : LKz (100 * (i : Int)) w) (hH : HR E w A s H locs) (hl : lv_has ls 4 [(3, .int (nI i)), (2, .ref (E.ad 127)), (1, .ref (E.ad 0)), (0, .ref b)])
    (kk : ∀ (w2 : MW) (H : Heap) (locs : List Loc), LKz (100 * (i : Int) + 600) w2 → ∀ (ls : Array Slot), HR E w2 A s H locs → lv_has ls 4 [(3, .int (nI (i + 6))), (2, .ref (E.ad 127)), (1, .ref (E.ad 0)), (0, .ref b)] → W p l e room_1 s m #[Value.ref b] below meth c H locs 221 83122 (lw_Z below #[Value.ref b] s) (F0 m 18 ls [])) : W p l e room_1 s m #[Value.ref b] below meth c H locs 221 83122 (lw_Z below #[Value.ref b] s) (F0 m 1172 ls []) := by
  obtain ⟨hx, hb, hml, hown, hts, hK, hG, hAs, hAc, hi2⟩ := id F
  refine lv_aload_n hx hb d_Lw_law_1172 rfl (lv_at hl 2 rfl) ?_
  refine lv_aload_n hx hb d_Lw_law_1173 rfl (lv_at hl 3 rfl) ?_
  refine lv_iload_n hx hb d_Lw_law_1174 rfl (lv_at hl 0 rfl) ?_
  refine lv_iconst (v := 1) hx hb d_Lw_law_1175 (by decide) ?_
  refine lv_iadd hx hb d_Lw_law_1176 ?_
  refine lv_topi (fun x0 e0 => ?_)
  obtain rfl : x0 = nI (i + 1) := e0.trans (nI_p i 1)
  refine va_sld hx hb hX hbl hbA hH.2 (vp_in_nI (by omega) (by omega)) d_Lw_law_1177 ?_
  refine lv_topi (fun y1 ey1 => ?_)
  refine lw_cv (ν := 34) (na := 1) (ci := 0) (idx := 139) (k := 0) (iv := (y_Bh_write, b_Bh_write, 2, (some .int))) (As := [.int y1]) (rest := []) F rfl rfl rfl mw_1559 mw_1560 mw_1561 mw_1 mw_1562 ⟨by decide +kernel, by decide +kernel, by decide +kernel⟩ (by decide) d_Lw_law_1178 rfl rfl (Nat.le_of_ble_eq_true rfl) rfl (Nat.le_of_ble_eq_true rfl) (pz_write (by omega) hw) hH hl (fun v w1 H locs hq hH => ?_)
  obtain ⟨r0, rfl, hT⟩ := hq
  refine W.eq (g2 := F0 m 1181 ls [.int r0]) rfl ?_
  refine lv_aload_n hx hb d_Lw_law_1181 rfl (lv_at hl 1 rfl) ?_
  refine lv_aload_n hx hb d_Lw_law_1182 rfl (lv_at hl 3 rfl) ?_
  refine lv_iload_n hx hb d_Lw_law_1183 rfl (lv_at hl 0 rfl) ?_
  refine lv_iconst (v := 1) hx hb d_Lw_law_1184 (by decide) ?_
  refine lv_iadd hx hb d_Lw_law_1185 ?_
  refine lv_topi (fun x0 e0 => ?_)
  obtain rfl : x0 = nI (i + 1) := e0.trans (nI_p i 1)
  refine va_sld hx hb hX hbl hbA hH.2 (vp_in_nI (by omega) (by omega)) d_Lw_law_1186 ?_
  refine lv_topi (fun x0 e0 => ?_)
  obtain rfl : y1 = x0 := ey1.trans e0.symm
  refine lw_cv (ν := 49) (na := 1) (ci := 12) (idx := 142) (k := 127) (iv := (y_Mo_write, b_Mo_write, 3, (some .int))) (As := [.int y1]) (rest := [.int r0]) F rfl rfl rfl mw_2347 mw_2348 mw_2349 mw_18 mw_2350 ⟨by decide +kernel, by decide +kernel, by decide +kernel⟩ (by decide) d_Lw_law_1187 rfl rfl (Nat.le_of_ble_eq_true rfl) rfl (Nat.le_of_ble_eq_true rfl) hT hH hl (fun v w2 H locs hq hH => ?_)
  obtain ⟨r1, rfl, hw2, heq⟩ := hq
  refine W.eq (g2 := F0 m 1190 ls [.int r1, .int r0]) rfl ?_
  refine lv_icmp_eq (tgt := 1208) hx hb d_Lw_law_1190 (by decide) (fun _ => ?_) (fun h => absurd heq h)
  exact lk_nx F hH hl (kk w2 _ _ hw2)
set_option maxHeartbeats 4000000 in
set_option maxRecDepth 100000 in
theorem lk_28 {E : EV} {p : Program} {e : Env} {s : State} {m : MethodId} {below : List Frame} {meth : Method} {c : Code} (l : Launch) {b L i : Nat} {xs : Nat → Int32} {H : Heap} {locs : List Loc} {ls : Array Slot} {A : Nat → Prop} {w : MW} (F : LwF E p s m c b A) (hX : va_X b L xs s s.heap) (hbl : b < s.heap.size) (hbA : ¬ A b) (hL : L ≤ 3072) (hi : i + 6 ≤ L) (hw : LKz (100 * (i : Int)) w) (hH : HR E w A s H locs) (hl : lv_has ls 4 [(3, .int (nI i)), (2, .ref (E.ad 127)), (1, .ref (E.ad 0)), (0, .ref b)])
    (kk : ∀ (w2 : MW) (H : Heap) (locs : List Loc), LKz (100 * (i : Int) + 600) w2 → ∀ (ls : Array Slot), HR E w2 A s H locs → lv_has ls 4 [(3, .int (nI (i + 6))), (2, .ref (E.ad 127)), (1, .ref (E.ad 0)), (0, .ref b)] → W p l e room_1 s m #[Value.ref b] below meth c H locs 221 83122 (lw_Z below #[Value.ref b] s) (F0 m 18 ls [])) : W p l e room_1 s m #[Value.ref b] below meth c H locs 221 83122 (lw_Z below #[Value.ref b] s) (F0 m 1195 ls []) := by
  obtain ⟨hx, hb, hml, hown, hts, hK, hG, hAs, hAc, hi2⟩ := id F
  refine lv_aload_n hx hb d_Lw_law_1195 rfl (lv_at hl 2 rfl) ?_
  refine lw_cv (ν := 35) (na := 0) (ci := 0) (idx := 143) (k := 0) (iv := (y_Bh_second, b_Bh_second, 1, (some .int))) (As := []) (rest := []) F rfl rfl rfl mw_1563 mw_1564 mw_1565 mw_1 mw_1566 ⟨by decide +kernel, by decide +kernel, by decide +kernel⟩ (by decide) d_Lw_law_1196 rfl rfl (Nat.le_of_ble_eq_true rfl) rfl (Nat.le_of_ble_eq_true rfl) (pz_second (by omega) hw) hH hl (fun v w1 H locs hq hH => ?_)
  obtain ⟨r0, rfl, hT⟩ := hq
  refine W.eq (g2 := F0 m 1199 ls [.int r0]) rfl ?_
  refine lv_aload_n hx hb d_Lw_law_1199 rfl (lv_at hl 1 rfl) ?_
  refine lw_cv (ν := 125) (na := 0) (ci := 12) (idx := 146) (k := 127) (iv := (y_Mo_second, b_Mo_second, 1, (some .int))) (As := []) (rest := [.int r0]) F rfl rfl rfl mw_2695 mw_2696 mw_2697 mw_18 mw_2698 ⟨by decide +kernel, by decide +kernel, by decide +kernel⟩ (by decide) d_Lw_law_1200 rfl rfl (Nat.le_of_ble_eq_true rfl) rfl (Nat.le_of_ble_eq_true rfl) hT hH hl (fun v w2 H locs hq hH => ?_)
  obtain ⟨r1, rfl, hw2, heq⟩ := hq
  refine W.eq (g2 := F0 m 1203 ls [.int r1, .int r0]) rfl ?_
  refine lv_icmp_eq (tgt := 1208) hx hb d_Lw_law_1203 (by decide) (fun _ => ?_) (fun h => absurd heq h)
  exact lk_nx F hH hl (kk w2 _ _ hw2)
