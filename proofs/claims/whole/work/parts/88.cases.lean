/-! ===== the law: a call of each kind ===== -/
section LAWC
variable {p : Program} {l : Launch} {e : Env} {s : State} {m : MethodId} {below : List Frame} {meth : Method} {c : Code} {b L : Nat} {xs : Nat → Int32} {D : va_G} {ad : Nat → Nat} {cA : Nat → ClassId} {Q : State → Prop}

set_option maxHeartbeats 1000000 in
theorem lc_0 (C : LC p s m meth c b L xs D ad cA) {i : Nat} (hi : i + 5 ≤ L) {H : Heap} {locs : List Loc} {M : dt_M} {ls : Array Slot} (hI : Inv M) (hM : dt_RM M) (hW : dt_W D ad cA (lA s) s H locs M) (hl : lv_has ls 4 [(0, .ref b), (1, .ref (ad 0)), (2, .ref (ad 62)), (3, .int (Int32.ofInt (i : Int)))])
    (nx : ∀ (M : dt_M) (H : Heap) (locs : List Loc), Inv M → dt_RM M → dt_W D ad cA (lA s) s H locs M → W p l e room_1 s m #[Value.ref b] below meth c H locs 600000 7302250 Q (F0 m 792 ls [])) : W p l e room_1 s m #[Value.ref b] below meth c H locs 600000 7302250 Q (F0 m 124 ls []) := by
  have hL := C.2.1
  have hx := C.1.1
  have hb := C.1.2.1
  have hown := C.1.2.2.2.2.1
  have hts := lw_ts C
  obtain ⟨Φ, hΦ, hk1⟩ := Pr_type _ _ (dn_rl _) (dn_ri _) M hI
  refine lv_aload_n hx hb dL_law_124 rfl (lv_at hl 1 rfl) ?_
  refine lw_arg (k := 1) C rfl hW.2.2 (lv_at hl 0 rfl) (lv_at hl 3 rfl) dL_law_125 dL_law_126 dL_law_127 dL_law_128 dL_law_129 (by omega) ?_
  refine lv_i2l hx hb dL_law_130 rfl ?_
  refine lv_bipush (v := 32) hx hb dL_law_131 (by decide) ?_
  refine lv_lshl hx hb dL_law_133 rfl ?_
  refine lw_arg (k := 2) C rfl hW.2.2 (lv_at hl 0 rfl) (lv_at hl 3 rfl) dL_law_134 dL_law_135 dL_law_136 dL_law_137 dL_law_138 (by omega) ?_
  refine lv_i2l hx hb dL_law_139 rfl ?_
  refine lv_ldc2 (own := R_law) (v := 4294967295) hx hb hown (hts _ wq_4_222) dL_law_140 ?_
  refine lv_land hx hb dL_law_143 ?_
  refine lv_lor hx hb dL_law_144 ?_
  refine lw_arg (k := 3) C rfl hW.2.2 (lv_at hl 0 rfl) (lv_at hl 3 rfl) dL_law_145 dL_law_146 dL_law_147 dL_law_148 dL_law_149 (by omega) ?_
  refine lw_call (av := [.inr (.inl (((xs (i + 1)).toInt64 <<< ((32 : Int32).toInt64 &&& 63)) ||| ((xs (i + 2)).toInt64 &&& 4294967295)).toInt), .inl (xs (i + 3)).toInt]) (rest := []) (k := 0) C (Nat.le_refl _) hW hM ffX6 nnX6_type wq_1_239 wq_2_0 wq_2_1 (by decide +kernel) (by intro v hv; simp only [List.mem_cons, List.not_mem_nil, or_false] at hv; rcases hv with rfl | rfl <;> first | exact dn_ri _ | exact dn_rl _) rfl hΦ (by simp [dt_cv, Int32.ofInt_toInt, Int64.ofInt_toInt]) (Nat.le_of_ble_eq_true rfl) hl.1 dL_law_150 (fun r M' H locs hr ho hM' hW => ?_)
  obtain ⟨v, rfl⟩ := okr_i ho
  obtain ⟨Ψ, hΨ, hk2⟩ := hk1 _ M' hr
  have hM := hM'
  refine lv_aload_n hx hb dL_law_153 rfl (lv_at hl 2 rfl) ?_
  refine lw_arg (k := 1) C rfl hW.2.2 (lv_at hl 0 rfl) (lv_at hl 3 rfl) dL_law_154 dL_law_155 dL_law_156 dL_law_157 dL_law_158 (by omega) ?_
  refine lv_i2l hx hb dL_law_159 rfl ?_
  refine lv_bipush (v := 32) hx hb dL_law_160 (by decide) ?_
  refine lv_lshl hx hb dL_law_162 rfl ?_
  refine lw_arg (k := 2) C rfl hW.2.2 (lv_at hl 0 rfl) (lv_at hl 3 rfl) dL_law_163 dL_law_164 dL_law_165 dL_law_166 dL_law_167 (by omega) ?_
  refine lv_i2l hx hb dL_law_168 rfl ?_
  refine lv_ldc2 (own := R_law) (v := 4294967295) hx hb hown (hts _ wq_4_222) dL_law_169 ?_
  refine lv_land hx hb dL_law_172 ?_
  refine lv_lor hx hb dL_law_173 ?_
  refine lw_arg (k := 3) C rfl hW.2.2 (lv_at hl 0 rfl) (lv_at hl 3 rfl) dL_law_174 dL_law_175 dL_law_176 dL_law_177 dL_law_178 (by omega) ?_
  refine lw_call (av := [.inr (.inl (((xs (i + 1)).toInt64 <<< ((32 : Int32).toInt64 &&& 63)) ||| ((xs (i + 2)).toInt64 &&& 4294967295)).toInt), .inl (xs (i + 3)).toInt]) (rest := [.int (Int32.ofInt v)]) (k := 62) C (Nat.le_refl _) hW hM ffX7 nnX7_type wq_4_3 wq_4_4 wq_4_5 (by decide +kernel) (by intro v hv; simp only [List.mem_cons, List.not_mem_nil, or_false] at hv; rcases hv with rfl | rfl <;> first | exact dn_ri _ | exact dn_rl _) rfl hΨ (by simp [dt_cv, Int32.ofInt_toInt, Int64.ofInt_toInt]) (Nat.le_of_ble_eq_true rfl) hl.1 dL_law_179 (fun r' M2 H locs hr2 ho2 hM2 hW => ?_)
  obtain ⟨rfl, hI2⟩ := hk2 r' M2 hr2
  refine lv_icmp_eq (tgt := 792) hx hb dL_law_182 (by decide) (fun _ => nx M2 H locs hI2 hM2 hW) (fun q => absurd rfl q)
set_option maxHeartbeats 1000000 in
theorem lc_1 (C : LC p s m meth c b L xs D ad cA) {i : Nat} (hi : i + 5 ≤ L) {H : Heap} {locs : List Loc} {M : dt_M} {ls : Array Slot} (hI : Inv M) (hM : dt_RM M) (hW : dt_W D ad cA (lA s) s H locs M) (hl : lv_has ls 4 [(0, .ref b), (1, .ref (ad 0)), (2, .ref (ad 62)), (3, .int (Int32.ofInt (i : Int)))])
    (nx : ∀ (M : dt_M) (H : Heap) (locs : List Loc), Inv M → dt_RM M → dt_W D ad cA (lA s) s H locs M → W p l e room_1 s m #[Value.ref b] below meth c H locs 600000 7302250 Q (F0 m 792 ls [])) : W p l e room_1 s m #[Value.ref b] below meth c H locs 600000 7302250 Q (F0 m 187 ls []) := by
  have hL := C.2.1
  have hx := C.1.1
  have hb := C.1.2.1
  have hown := C.1.2.2.2.2.1
  have hts := lw_ts C
  obtain ⟨Φ, hΦ, hk1⟩ := Pr_clear M hI
  refine lv_aload_n hx hb dL_law_187 rfl (lv_at hl 1 rfl) ?_
  refine lw_call (av := []) (rest := []) (k := 0) C (Nat.le_refl _) hW hM ffX6 nnX6_clear wq_2_7 wq_2_8 wq_2_9 (by decide +kernel) (fun v hv => absurd hv List.not_mem_nil) rfl hΦ (by simp [dt_cv, Int32.ofInt_toInt, Int64.ofInt_toInt]) (Nat.le_of_ble_eq_true rfl) hl.1 dL_law_188 (fun r M' H locs hr ho hM' hW => ?_)
  obtain ⟨v, rfl⟩ := okr_i ho
  obtain ⟨Ψ, hΨ, hk2⟩ := hk1 _ M' hr
  have hM := hM'
  refine lv_aload_n hx hb dL_law_191 rfl (lv_at hl 2 rfl) ?_
  refine lw_call (av := []) (rest := [.int (Int32.ofInt v)]) (k := 62) C (Nat.le_refl _) hW hM ffX7 nnX7_clear wq_4_12 wq_4_13 wq_4_14 (by decide +kernel) (fun v hv => absurd hv List.not_mem_nil) rfl hΨ (by simp [dt_cv, Int32.ofInt_toInt, Int64.ofInt_toInt]) (Nat.le_of_ble_eq_true rfl) hl.1 dL_law_192 (fun r' M2 H locs hr2 ho2 hM2 hW => ?_)
  obtain ⟨rfl, hI2⟩ := hk2 r' M2 hr2
  refine lv_icmp_eq (tgt := 792) hx hb dL_law_195 (by decide) (fun _ => nx M2 H locs hI2 hM2 hW) (fun q => absurd rfl q)
set_option maxHeartbeats 1000000 in
theorem lc_2 (C : LC p s m meth c b L xs D ad cA) {i : Nat} (hi : i + 5 ≤ L) {H : Heap} {locs : List Loc} {M : dt_M} {ls : Array Slot} (hI : Inv M) (hM : dt_RM M) (hW : dt_W D ad cA (lA s) s H locs M) (hl : lv_has ls 4 [(0, .ref b), (1, .ref (ad 0)), (2, .ref (ad 62)), (3, .int (Int32.ofInt (i : Int)))])
    (nx : ∀ (M : dt_M) (H : Heap) (locs : List Loc), Inv M → dt_RM M → dt_W D ad cA (lA s) s H locs M → W p l e room_1 s m #[Value.ref b] below meth c H locs 600000 7302250 Q (F0 m 792 ls [])) : W p l e room_1 s m #[Value.ref b] below meth c H locs 600000 7302250 Q (F0 m 200 ls []) := by
  have hL := C.2.1
  have hx := C.1.1
  have hb := C.1.2.1
  have hown := C.1.2.2.2.2.1
  have hts := lw_ts C
  obtain ⟨Φ, hΦ, hk1⟩ := Pr_talk (xs (i + 1)).toInt M hI
  refine lv_aload_n hx hb dL_law_200 rfl (lv_at hl 1 rfl) ?_
  refine lw_arg (k := 1) C rfl hW.2.2 (lv_at hl 0 rfl) (lv_at hl 3 rfl) dL_law_201 dL_law_202 dL_law_203 dL_law_204 dL_law_205 (by omega) ?_
  refine lw_call (av := [.inl (xs (i + 1)).toInt]) (rest := []) (k := 0) C (Nat.le_refl _) hW hM ffX6 nnX6_talk wq_2_11 wq_2_12 wq_2_13 (by decide +kernel) (by intro v hv; simp only [List.mem_cons, List.not_mem_nil, or_false] at hv; subst hv; exact dn_ri _) rfl hΦ (by simp [dt_cv, Int32.ofInt_toInt, Int64.ofInt_toInt]) (Nat.le_of_ble_eq_true rfl) hl.1 dL_law_206 (fun r M' H locs hr ho hM' hW => ?_)
  obtain ⟨v, rfl⟩ := okr_i ho
  obtain ⟨Ψ, hΨ, hk2⟩ := hk1 _ M' hr
  have hM := hM'
  refine lv_aload_n hx hb dL_law_209 rfl (lv_at hl 2 rfl) ?_
  refine lw_arg (k := 1) C rfl hW.2.2 (lv_at hl 0 rfl) (lv_at hl 3 rfl) dL_law_210 dL_law_211 dL_law_212 dL_law_213 dL_law_214 (by omega) ?_
  refine lw_call (av := [.inl (xs (i + 1)).toInt]) (rest := [.int (Int32.ofInt v)]) (k := 62) C (Nat.le_refl _) hW hM ffX7 nnX7_talk wq_4_16 wq_4_17 wq_4_18 (by decide +kernel) (by intro v hv; simp only [List.mem_cons, List.not_mem_nil, or_false] at hv; subst hv; exact dn_ri _) rfl hΨ (by simp [dt_cv, Int32.ofInt_toInt, Int64.ofInt_toInt]) (Nat.le_of_ble_eq_true rfl) hl.1 dL_law_215 (fun r' M2 H locs hr2 ho2 hM2 hW => ?_)
  obtain ⟨rfl, hI2⟩ := hk2 r' M2 hr2
  refine lv_icmp_eq (tgt := 792) hx hb dL_law_218 (by decide) (fun _ => nx M2 H locs hI2 hM2 hW) (fun q => absurd rfl q)
set_option maxHeartbeats 1000000 in
theorem lc_3 (C : LC p s m meth c b L xs D ad cA) {i : Nat} (hi : i + 5 ≤ L) {H : Heap} {locs : List Loc} {M : dt_M} {ls : Array Slot} (hI : Inv M) (hM : dt_RM M) (hW : dt_W D ad cA (lA s) s H locs M) (hl : lv_has ls 4 [(0, .ref b), (1, .ref (ad 0)), (2, .ref (ad 62)), (3, .int (Int32.ofInt (i : Int)))])
    (nx : ∀ (M : dt_M) (H : Heap) (locs : List Loc), Inv M → dt_RM M → dt_W D ad cA (lA s) s H locs M → W p l e room_1 s m #[Value.ref b] below meth c H locs 600000 7302250 Q (F0 m 792 ls [])) : W p l e room_1 s m #[Value.ref b] below meth c H locs 600000 7302250 Q (F0 m 223 ls []) := by
  have hL := C.2.1
  have hx := C.1.1
  have hb := C.1.2.1
  have hown := C.1.2.2.2.2.1
  have hts := lw_ts C
  obtain ⟨Φ, hΦ, hk1⟩ := Pr_about (xs (i + 1)).toInt (xs (i + 2)).toInt M hI
  refine lv_aload_n hx hb dL_law_223 rfl (lv_at hl 1 rfl) ?_
  refine lw_arg (k := 1) C rfl hW.2.2 (lv_at hl 0 rfl) (lv_at hl 3 rfl) dL_law_224 dL_law_225 dL_law_226 dL_law_227 dL_law_228 (by omega) ?_
  refine lw_arg (k := 2) C rfl hW.2.2 (lv_at hl 0 rfl) (lv_at hl 3 rfl) dL_law_229 dL_law_230 dL_law_231 dL_law_232 dL_law_233 (by omega) ?_
  refine lw_call (av := [.inl (xs (i + 1)).toInt, .inl (xs (i + 2)).toInt]) (rest := []) (k := 0) C (Nat.le_refl _) hW hM ffX6 nnX6_about wq_2_136 wq_2_137 wq_2_138 (by decide +kernel) (by intro v hv; simp only [List.mem_cons, List.not_mem_nil, or_false] at hv; rcases hv with rfl | rfl <;> first | exact dn_ri _ | exact dn_rl _) rfl hΦ (by simp [dt_cv, Int32.ofInt_toInt, Int64.ofInt_toInt]) (Nat.le_of_ble_eq_true rfl) hl.1 dL_law_234 (fun r M' H locs hr ho hM' hW => ?_)
  obtain ⟨v, rfl⟩ := okr_i ho
  obtain ⟨Ψ, hΨ, hk2⟩ := hk1 _ M' hr
  have hM := hM'
  refine lv_aload_n hx hb dL_law_237 rfl (lv_at hl 2 rfl) ?_
  refine lw_arg (k := 1) C rfl hW.2.2 (lv_at hl 0 rfl) (lv_at hl 3 rfl) dL_law_238 dL_law_239 dL_law_240 dL_law_241 dL_law_242 (by omega) ?_
  refine lw_arg (k := 2) C rfl hW.2.2 (lv_at hl 0 rfl) (lv_at hl 3 rfl) dL_law_243 dL_law_244 dL_law_245 dL_law_246 dL_law_247 (by omega) ?_
  refine lw_call (av := [.inl (xs (i + 1)).toInt, .inl (xs (i + 2)).toInt]) (rest := [.int (Int32.ofInt v)]) (k := 62) C (Nat.le_refl _) hW hM ffX7 nnX7_about wq_4_65 wq_4_66 wq_4_67 (by decide +kernel) (by intro v hv; simp only [List.mem_cons, List.not_mem_nil, or_false] at hv; rcases hv with rfl | rfl <;> first | exact dn_ri _ | exact dn_rl _) rfl hΨ (by simp [dt_cv, Int32.ofInt_toInt, Int64.ofInt_toInt]) (Nat.le_of_ble_eq_true rfl) hl.1 dL_law_248 (fun r' M2 H locs hr2 ho2 hM2 hW => ?_)
  obtain ⟨rfl, hI2⟩ := hk2 r' M2 hr2
  refine lv_icmp_eq (tgt := 792) hx hb dL_law_251 (by decide) (fun _ => nx M2 H locs hI2 hM2 hW) (fun q => absurd rfl q)
set_option maxHeartbeats 1000000 in
theorem lc_4 (C : LC p s m meth c b L xs D ad cA) {i : Nat} (hi : i + 5 ≤ L) {H : Heap} {locs : List Loc} {M : dt_M} {ls : Array Slot} (hI : Inv M) (hM : dt_RM M) (hW : dt_W D ad cA (lA s) s H locs M) (hl : lv_has ls 4 [(0, .ref b), (1, .ref (ad 0)), (2, .ref (ad 62)), (3, .int (Int32.ofInt (i : Int)))])
    (nx : ∀ (M : dt_M) (H : Heap) (locs : List Loc), Inv M → dt_RM M → dt_W D ad cA (lA s) s H locs M → W p l e room_1 s m #[Value.ref b] below meth c H locs 600000 7302250 Q (F0 m 792 ls [])) : W p l e room_1 s m #[Value.ref b] below meth c H locs 600000 7302250 Q (F0 m 256 ls []) := by
  have hL := C.2.1
  have hx := C.1.1
  have hb := C.1.2.1
  have hown := C.1.2.2.2.2.1
  have hts := lw_ts C
  obtain ⟨Φ, hΦ, hk1⟩ := Pr_event (xs (i + 1)).toInt (xs (i + 2)).toInt (xs (i + 3)).toInt M hI
  refine lv_aload_n hx hb dL_law_256 rfl (lv_at hl 1 rfl) ?_
  refine lw_arg (k := 1) C rfl hW.2.2 (lv_at hl 0 rfl) (lv_at hl 3 rfl) dL_law_257 dL_law_258 dL_law_259 dL_law_260 dL_law_261 (by omega) ?_
  refine lw_arg (k := 2) C rfl hW.2.2 (lv_at hl 0 rfl) (lv_at hl 3 rfl) dL_law_262 dL_law_263 dL_law_264 dL_law_265 dL_law_266 (by omega) ?_
  refine lw_arg (k := 3) C rfl hW.2.2 (lv_at hl 0 rfl) (lv_at hl 3 rfl) dL_law_267 dL_law_268 dL_law_269 dL_law_270 dL_law_271 (by omega) ?_
  refine lw_call (av := [.inl (xs (i + 1)).toInt, .inl (xs (i + 2)).toInt, .inl (xs (i + 3)).toInt]) (rest := []) (k := 0) C (Nat.le_refl _) hW hM ffX6 nnX6_event wq_2_144 wq_2_145 wq_2_146 (by decide +kernel) (by intro v hv; simp only [List.mem_cons, List.not_mem_nil, or_false] at hv; rcases hv with rfl | rfl | rfl <;> first | exact dn_ri _ | exact dn_rl _) rfl hΦ (by simp [dt_cv, Int32.ofInt_toInt, Int64.ofInt_toInt]) (Nat.le_of_ble_eq_true rfl) hl.1 dL_law_272 (fun r M' H locs hr ho hM' hW => ?_)
  obtain ⟨v, rfl⟩ := okr_i ho
  obtain ⟨Ψ, hΨ, hk2⟩ := hk1 _ M' hr
  have hM := hM'
  refine lv_aload_n hx hb dL_law_275 rfl (lv_at hl 2 rfl) ?_
  refine lw_arg (k := 1) C rfl hW.2.2 (lv_at hl 0 rfl) (lv_at hl 3 rfl) dL_law_276 dL_law_277 dL_law_278 dL_law_279 dL_law_280 (by omega) ?_
  refine lw_arg (k := 2) C rfl hW.2.2 (lv_at hl 0 rfl) (lv_at hl 3 rfl) dL_law_281 dL_law_282 dL_law_283 dL_law_284 dL_law_285 (by omega) ?_
  refine lw_arg (k := 3) C rfl hW.2.2 (lv_at hl 0 rfl) (lv_at hl 3 rfl) dL_law_286 dL_law_287 dL_law_288 dL_law_289 dL_law_290 (by omega) ?_
  refine lw_call (av := [.inl (xs (i + 1)).toInt, .inl (xs (i + 2)).toInt, .inl (xs (i + 3)).toInt]) (rest := [.int (Int32.ofInt v)]) (k := 62) C (Nat.le_refl _) hW hM ffX7 nnX7_event wq_4_70 wq_4_71 wq_4_72 (by decide +kernel) (by intro v hv; simp only [List.mem_cons, List.not_mem_nil, or_false] at hv; rcases hv with rfl | rfl | rfl <;> first | exact dn_ri _ | exact dn_rl _) rfl hΨ (by simp [dt_cv, Int32.ofInt_toInt, Int64.ofInt_toInt]) (Nat.le_of_ble_eq_true rfl) hl.1 dL_law_291 (fun r' M2 H locs hr2 ho2 hM2 hW => ?_)
  obtain ⟨rfl, hI2⟩ := hk2 r' M2 hr2
  refine lv_icmp_eq (tgt := 792) hx hb dL_law_294 (by decide) (fun _ => nx M2 H locs hI2 hM2 hW) (fun q => absurd rfl q)
set_option maxHeartbeats 1000000 in
theorem lc_5 (C : LC p s m meth c b L xs D ad cA) {i : Nat} (hi : i + 5 ≤ L) {H : Heap} {locs : List Loc} {M : dt_M} {ls : Array Slot} (hI : Inv M) (hM : dt_RM M) (hW : dt_W D ad cA (lA s) s H locs M) (hl : lv_has ls 4 [(0, .ref b), (1, .ref (ad 0)), (2, .ref (ad 62)), (3, .int (Int32.ofInt (i : Int)))])
    (nx : ∀ (M : dt_M) (H : Heap) (locs : List Loc), Inv M → dt_RM M → dt_W D ad cA (lA s) s H locs M → W p l e room_1 s m #[Value.ref b] below meth c H locs 600000 7302250 Q (F0 m 792 ls [])) : W p l e room_1 s m #[Value.ref b] below meth c H locs 600000 7302250 Q (F0 m 299 ls []) := by
  have hL := C.2.1
  have hx := C.1.1
  have hb := C.1.2.1
  have hown := C.1.2.2.2.2.1
  have hts := lw_ts C
  obtain ⟨Φ, hΦ, hk1⟩ := Pr_line (xs (i + 1)).toInt (xs (i + 2)).toInt (xs (i + 3)).toInt M hI
  refine lv_aload_n hx hb dL_law_299 rfl (lv_at hl 1 rfl) ?_
  refine lw_arg (k := 1) C rfl hW.2.2 (lv_at hl 0 rfl) (lv_at hl 3 rfl) dL_law_300 dL_law_301 dL_law_302 dL_law_303 dL_law_304 (by omega) ?_
  refine lw_arg (k := 2) C rfl hW.2.2 (lv_at hl 0 rfl) (lv_at hl 3 rfl) dL_law_305 dL_law_306 dL_law_307 dL_law_308 dL_law_309 (by omega) ?_
  refine lw_arg (k := 3) C rfl hW.2.2 (lv_at hl 0 rfl) (lv_at hl 3 rfl) dL_law_310 dL_law_311 dL_law_312 dL_law_313 dL_law_314 (by omega) ?_
  refine lw_call (av := [.inl (xs (i + 1)).toInt, .inl (xs (i + 2)).toInt, .inl (xs (i + 3)).toInt]) (rest := []) (k := 0) C (Nat.le_refl _) hW hM ffX6 nnX6_line wq_2_155 wq_2_156 wq_2_157 (by decide +kernel) (by intro v hv; simp only [List.mem_cons, List.not_mem_nil, or_false] at hv; rcases hv with rfl | rfl | rfl <;> first | exact dn_ri _ | exact dn_rl _) rfl hΦ (by simp [dt_cv, Int32.ofInt_toInt, Int64.ofInt_toInt]) (Nat.le_of_ble_eq_true rfl) hl.1 dL_law_315 (fun r M' H locs hr ho hM' hW => ?_)
  obtain ⟨v, rfl⟩ := okr_i ho
  obtain ⟨Ψ, hΨ, hk2⟩ := hk1 _ M' hr
  have hM := hM'
  refine lv_aload_n hx hb dL_law_318 rfl (lv_at hl 2 rfl) ?_
  refine lw_arg (k := 1) C rfl hW.2.2 (lv_at hl 0 rfl) (lv_at hl 3 rfl) dL_law_319 dL_law_320 dL_law_321 dL_law_322 dL_law_323 (by omega) ?_
  refine lw_arg (k := 2) C rfl hW.2.2 (lv_at hl 0 rfl) (lv_at hl 3 rfl) dL_law_324 dL_law_325 dL_law_326 dL_law_327 dL_law_328 (by omega) ?_
  refine lw_arg (k := 3) C rfl hW.2.2 (lv_at hl 0 rfl) (lv_at hl 3 rfl) dL_law_329 dL_law_330 dL_law_331 dL_law_332 dL_law_333 (by omega) ?_
  refine lw_call (av := [.inl (xs (i + 1)).toInt, .inl (xs (i + 2)).toInt, .inl (xs (i + 3)).toInt]) (rest := [.int (Int32.ofInt v)]) (k := 62) C (Nat.le_refl _) hW hM ffX7 nnX7_line wq_4_78 wq_4_79 wq_4_80 (by decide +kernel) (by intro v hv; simp only [List.mem_cons, List.not_mem_nil, or_false] at hv; rcases hv with rfl | rfl | rfl <;> first | exact dn_ri _ | exact dn_rl _) rfl hΨ (by simp [dt_cv, Int32.ofInt_toInt, Int64.ofInt_toInt]) (Nat.le_of_ble_eq_true rfl) hl.1 dL_law_334 (fun r' M2 H locs hr2 ho2 hM2 hW => ?_)
  obtain ⟨rfl, hI2⟩ := hk2 r' M2 hr2
  refine lv_icmp_eq (tgt := 792) hx hb dL_law_337 (by decide) (fun _ => nx M2 H locs hI2 hM2 hW) (fun q => absurd rfl q)
set_option maxHeartbeats 1000000 in
theorem lc_6 (C : LC p s m meth c b L xs D ad cA) {i : Nat} (hi : i + 5 ≤ L) {H : Heap} {locs : List Loc} {M : dt_M} {ls : Array Slot} (hI : Inv M) (hM : dt_RM M) (hW : dt_W D ad cA (lA s) s H locs M) (hl : lv_has ls 4 [(0, .ref b), (1, .ref (ad 0)), (2, .ref (ad 62)), (3, .int (Int32.ofInt (i : Int)))])
    (nx : ∀ (M : dt_M) (H : Heap) (locs : List Loc), Inv M → dt_RM M → dt_W D ad cA (lA s) s H locs M → W p l e room_1 s m #[Value.ref b] below meth c H locs 600000 7302250 Q (F0 m 792 ls [])) : W p l e room_1 s m #[Value.ref b] below meth c H locs 600000 7302250 Q (F0 m 342 ls []) := by
  have hL := C.2.1
  have hx := C.1.1
  have hb := C.1.2.1
  have hown := C.1.2.2.2.2.1
  have hts := lw_ts C
  obtain ⟨Φ, hΦ, hk1⟩ := Pr_drawn (xs (i + 1)).toInt (xs (i + 2)).toInt (xs (i + 3)).toInt M hI
  refine lv_aload_n hx hb dL_law_342 rfl (lv_at hl 1 rfl) ?_
  refine lw_arg (k := 1) C rfl hW.2.2 (lv_at hl 0 rfl) (lv_at hl 3 rfl) dL_law_343 dL_law_344 dL_law_345 dL_law_346 dL_law_347 (by omega) ?_
  refine lw_arg (k := 2) C rfl hW.2.2 (lv_at hl 0 rfl) (lv_at hl 3 rfl) dL_law_348 dL_law_349 dL_law_350 dL_law_351 dL_law_352 (by omega) ?_
  refine lw_arg (k := 3) C rfl hW.2.2 (lv_at hl 0 rfl) (lv_at hl 3 rfl) dL_law_353 dL_law_354 dL_law_355 dL_law_356 dL_law_357 (by omega) ?_
  refine lw_call (av := [.inl (xs (i + 1)).toInt, .inl (xs (i + 2)).toInt, .inl (xs (i + 3)).toInt]) (rest := []) (k := 0) C (Nat.le_refl _) hW hM ffX6 nnX6_drawn wq_2_166 wq_2_167 wq_2_168 (by decide +kernel) (by intro v hv; simp only [List.mem_cons, List.not_mem_nil, or_false] at hv; rcases hv with rfl | rfl | rfl <;> first | exact dn_ri _ | exact dn_rl _) rfl hΦ (by simp [dt_cv, Int32.ofInt_toInt, Int64.ofInt_toInt]) (Nat.le_of_ble_eq_true rfl) hl.1 dL_law_358 (fun r M' H locs hr ho hM' hW => ?_)
  obtain ⟨v, rfl⟩ := okr_i ho
  obtain ⟨Ψ, hΨ, hk2⟩ := hk1 _ M' hr
  have hM := hM'
  refine lv_aload_n hx hb dL_law_361 rfl (lv_at hl 2 rfl) ?_
  refine lw_arg (k := 1) C rfl hW.2.2 (lv_at hl 0 rfl) (lv_at hl 3 rfl) dL_law_362 dL_law_363 dL_law_364 dL_law_365 dL_law_366 (by omega) ?_
  refine lw_arg (k := 2) C rfl hW.2.2 (lv_at hl 0 rfl) (lv_at hl 3 rfl) dL_law_367 dL_law_368 dL_law_369 dL_law_370 dL_law_371 (by omega) ?_
  refine lw_arg (k := 3) C rfl hW.2.2 (lv_at hl 0 rfl) (lv_at hl 3 rfl) dL_law_372 dL_law_373 dL_law_374 dL_law_375 dL_law_376 (by omega) ?_
  refine lw_call (av := [.inl (xs (i + 1)).toInt, .inl (xs (i + 2)).toInt, .inl (xs (i + 3)).toInt]) (rest := [.int (Int32.ofInt v)]) (k := 62) C (Nat.le_refl _) hW hM ffX7 nnX7_drawn wq_4_83 wq_4_84 wq_4_85 (by decide +kernel) (by intro v hv; simp only [List.mem_cons, List.not_mem_nil, or_false] at hv; rcases hv with rfl | rfl | rfl <;> first | exact dn_ri _ | exact dn_rl _) rfl hΨ (by simp [dt_cv, Int32.ofInt_toInt, Int64.ofInt_toInt]) (Nat.le_of_ble_eq_true rfl) hl.1 dL_law_377 (fun r' M2 H locs hr2 ho2 hM2 hW => ?_)
  obtain ⟨rfl, hI2⟩ := hk2 r' M2 hr2
  refine lv_icmp_eq (tgt := 792) hx hb dL_law_380 (by decide) (fun _ => nx M2 H locs hI2 hM2 hW) (fun q => absurd rfl q)
set_option maxHeartbeats 1000000 in
theorem lc_7 (C : LC p s m meth c b L xs D ad cA) {i : Nat} (hi : i + 5 ≤ L) {H : Heap} {locs : List Loc} {M : dt_M} {ls : Array Slot} (hI : Inv M) (hM : dt_RM M) (hW : dt_W D ad cA (lA s) s H locs M) (hl : lv_has ls 4 [(0, .ref b), (1, .ref (ad 0)), (2, .ref (ad 62)), (3, .int (Int32.ofInt (i : Int)))])
    (nx : ∀ (M : dt_M) (H : Heap) (locs : List Loc), Inv M → dt_RM M → dt_W D ad cA (lA s) s H locs M → W p l e room_1 s m #[Value.ref b] below meth c H locs 600000 7302250 Q (F0 m 792 ls [])) : W p l e room_1 s m #[Value.ref b] below meth c H locs 600000 7302250 Q (F0 m 385 ls []) := by
  have hL := C.2.1
  have hx := C.1.1
  have hb := C.1.2.1
  have hown := C.1.2.2.2.2.1
  have hts := lw_ts C
  obtain ⟨Φ, hΦ, hk1⟩ := Pr_kept (xs (i + 1)).toInt (xs (i + 2)).toInt (xs (i + 3)).toInt (xs (i + 4)).toInt M hI
  refine lv_aload_n hx hb dL_law_385 rfl (lv_at hl 1 rfl) ?_
  refine lw_arg (k := 1) C rfl hW.2.2 (lv_at hl 0 rfl) (lv_at hl 3 rfl) dL_law_386 dL_law_387 dL_law_388 dL_law_389 dL_law_390 (by omega) ?_
  refine lw_arg (k := 2) C rfl hW.2.2 (lv_at hl 0 rfl) (lv_at hl 3 rfl) dL_law_391 dL_law_392 dL_law_393 dL_law_394 dL_law_395 (by omega) ?_
  refine lw_arg (k := 3) C rfl hW.2.2 (lv_at hl 0 rfl) (lv_at hl 3 rfl) dL_law_396 dL_law_397 dL_law_398 dL_law_399 dL_law_400 (by omega) ?_
  refine lw_arg (k := 4) C rfl hW.2.2 (lv_at hl 0 rfl) (lv_at hl 3 rfl) dL_law_401 dL_law_402 dL_law_403 dL_law_404 dL_law_405 (by omega) ?_
  refine lw_call (av := [.inl (xs (i + 1)).toInt, .inl (xs (i + 2)).toInt, .inl (xs (i + 3)).toInt, .inl (xs (i + 4)).toInt]) (rest := []) (k := 0) C (Nat.le_refl _) hW hM ffX6 nnX6_kept wq_2_183 wq_2_184 wq_2_185 (by decide +kernel) (by intro v hv; simp only [List.mem_cons, List.not_mem_nil, or_false] at hv; rcases hv with rfl | rfl | rfl | rfl <;> first | exact dn_ri _ | exact dn_rl _) rfl hΦ (by simp [dt_cv, Int32.ofInt_toInt, Int64.ofInt_toInt]) (Nat.le_of_ble_eq_true rfl) hl.1 dL_law_406 (fun r M' H locs hr ho hM' hW => ?_)
  obtain ⟨v, rfl⟩ := okr_i ho
  obtain ⟨Ψ, hΨ, hk2⟩ := hk1 _ M' hr
  have hM := hM'
  refine lv_aload_n hx hb dL_law_409 rfl (lv_at hl 2 rfl) ?_
  refine lw_arg (k := 1) C rfl hW.2.2 (lv_at hl 0 rfl) (lv_at hl 3 rfl) dL_law_410 dL_law_411 dL_law_412 dL_law_413 dL_law_414 (by omega) ?_
  refine lw_arg (k := 2) C rfl hW.2.2 (lv_at hl 0 rfl) (lv_at hl 3 rfl) dL_law_415 dL_law_416 dL_law_417 dL_law_418 dL_law_419 (by omega) ?_
  refine lw_arg (k := 3) C rfl hW.2.2 (lv_at hl 0 rfl) (lv_at hl 3 rfl) dL_law_420 dL_law_421 dL_law_422 dL_law_423 dL_law_424 (by omega) ?_
  refine lw_arg (k := 4) C rfl hW.2.2 (lv_at hl 0 rfl) (lv_at hl 3 rfl) dL_law_425 dL_law_426 dL_law_427 dL_law_428 dL_law_429 (by omega) ?_
  refine lw_call (av := [.inl (xs (i + 1)).toInt, .inl (xs (i + 2)).toInt, .inl (xs (i + 3)).toInt, .inl (xs (i + 4)).toInt]) (rest := [.int (Int32.ofInt v)]) (k := 62) C (Nat.le_refl _) hW hM ffX7 nnX7_kept wq_4_107 wq_4_108 wq_4_109 (by decide +kernel) (by intro v hv; simp only [List.mem_cons, List.not_mem_nil, or_false] at hv; rcases hv with rfl | rfl | rfl | rfl <;> first | exact dn_ri _ | exact dn_rl _) rfl hΨ (by simp [dt_cv, Int32.ofInt_toInt, Int64.ofInt_toInt]) (Nat.le_of_ble_eq_true rfl) hl.1 dL_law_430 (fun r' M2 H locs hr2 ho2 hM2 hW => ?_)
  obtain ⟨rfl, hI2⟩ := hk2 r' M2 hr2
  refine lv_icmp_eq (tgt := 792) hx hb dL_law_433 (by decide) (fun _ => nx M2 H locs hI2 hM2 hW) (fun q => absurd rfl q)
set_option maxHeartbeats 1000000 in
theorem lc_8 (C : LC p s m meth c b L xs D ad cA) {i : Nat} (hi : i + 5 ≤ L) {H : Heap} {locs : List Loc} {M : dt_M} {ls : Array Slot} (hI : Inv M) (hM : dt_RM M) (hW : dt_W D ad cA (lA s) s H locs M) (hl : lv_has ls 4 [(0, .ref b), (1, .ref (ad 0)), (2, .ref (ad 62)), (3, .int (Int32.ofInt (i : Int)))])
    (nx : ∀ (M : dt_M) (H : Heap) (locs : List Loc), Inv M → dt_RM M → dt_W D ad cA (lA s) s H locs M → W p l e room_1 s m #[Value.ref b] below meth c H locs 600000 7302250 Q (F0 m 792 ls [])) : W p l e room_1 s m #[Value.ref b] below meth c H locs 600000 7302250 Q (F0 m 438 ls []) := by
  have hL := C.2.1
  have hx := C.1.1
  have hb := C.1.2.1
  have hown := C.1.2.2.2.2.1
  have hts := lw_ts C
  obtain ⟨Φ, hΦ, hk1⟩ := Pr_race (xs (i + 1)).toInt (xs (i + 2)).toInt (xs (i + 3)).toInt M hI
  refine lv_aload_n hx hb dL_law_438 rfl (lv_at hl 1 rfl) ?_
  refine lw_arg (k := 1) C rfl hW.2.2 (lv_at hl 0 rfl) (lv_at hl 3 rfl) dL_law_439 dL_law_440 dL_law_441 dL_law_442 dL_law_443 (by omega) ?_
  refine lw_arg (k := 2) C rfl hW.2.2 (lv_at hl 0 rfl) (lv_at hl 3 rfl) dL_law_444 dL_law_445 dL_law_446 dL_law_447 dL_law_448 (by omega) ?_
  refine lw_arg (k := 3) C rfl hW.2.2 (lv_at hl 0 rfl) (lv_at hl 3 rfl) dL_law_449 dL_law_450 dL_law_451 dL_law_452 dL_law_453 (by omega) ?_
  refine lw_call (av := [.inl (xs (i + 1)).toInt, .inl (xs (i + 2)).toInt, .inl (xs (i + 3)).toInt]) (rest := []) (k := 0) C (Nat.le_refl _) hW hM ffX6 nnX6_race wq_2_190 wq_2_191 wq_2_192 (by decide +kernel) (by intro v hv; simp only [List.mem_cons, List.not_mem_nil, or_false] at hv; rcases hv with rfl | rfl | rfl <;> first | exact dn_ri _ | exact dn_rl _) rfl hΦ (by simp [dt_cv, Int32.ofInt_toInt, Int64.ofInt_toInt]) (Nat.le_of_ble_eq_true rfl) hl.1 dL_law_454 (fun r M' H locs hr ho hM' hW => ?_)
  obtain ⟨v, rfl⟩ := okr_i ho
  obtain ⟨Ψ, hΨ, hk2⟩ := hk1 _ M' hr
  have hM := hM'
  refine lv_aload_n hx hb dL_law_457 rfl (lv_at hl 2 rfl) ?_
  refine lw_arg (k := 1) C rfl hW.2.2 (lv_at hl 0 rfl) (lv_at hl 3 rfl) dL_law_458 dL_law_459 dL_law_460 dL_law_461 dL_law_462 (by omega) ?_
  refine lw_arg (k := 2) C rfl hW.2.2 (lv_at hl 0 rfl) (lv_at hl 3 rfl) dL_law_463 dL_law_464 dL_law_465 dL_law_466 dL_law_467 (by omega) ?_
  refine lw_arg (k := 3) C rfl hW.2.2 (lv_at hl 0 rfl) (lv_at hl 3 rfl) dL_law_468 dL_law_469 dL_law_470 dL_law_471 dL_law_472 (by omega) ?_
  refine lw_call (av := [.inl (xs (i + 1)).toInt, .inl (xs (i + 2)).toInt, .inl (xs (i + 3)).toInt]) (rest := [.int (Int32.ofInt v)]) (k := 62) C (Nat.le_refl _) hW hM ffX7 nnX7_race wq_4_119 wq_4_120 wq_4_121 (by decide +kernel) (by intro v hv; simp only [List.mem_cons, List.not_mem_nil, or_false] at hv; rcases hv with rfl | rfl | rfl <;> first | exact dn_ri _ | exact dn_rl _) rfl hΨ (by simp [dt_cv, Int32.ofInt_toInt, Int64.ofInt_toInt]) (Nat.le_of_ble_eq_true rfl) hl.1 dL_law_473 (fun r' M2 H locs hr2 ho2 hM2 hW => ?_)
  obtain ⟨rfl, hI2⟩ := hk2 r' M2 hr2
  refine lv_icmp_eq (tgt := 792) hx hb dL_law_476 (by decide) (fun _ => nx M2 H locs hI2 hM2 hW) (fun q => absurd rfl q)
set_option maxHeartbeats 1000000 in
theorem lc_9 (C : LC p s m meth c b L xs D ad cA) {i : Nat} (hi : i + 5 ≤ L) {H : Heap} {locs : List Loc} {M : dt_M} {ls : Array Slot} (hI : Inv M) (hM : dt_RM M) (hW : dt_W D ad cA (lA s) s H locs M) (hl : lv_has ls 4 [(0, .ref b), (1, .ref (ad 0)), (2, .ref (ad 62)), (3, .int (Int32.ofInt (i : Int)))])
    (nx : ∀ (M : dt_M) (H : Heap) (locs : List Loc), Inv M → dt_RM M → dt_W D ad cA (lA s) s H locs M → W p l e room_1 s m #[Value.ref b] below meth c H locs 600000 7302250 Q (F0 m 792 ls [])) : W p l e room_1 s m #[Value.ref b] below meth c H locs 600000 7302250 Q (F0 m 481 ls []) := by
  have hL := C.2.1
  have hx := C.1.1
  have hb := C.1.2.1
  have hown := C.1.2.2.2.2.1
  have hts := lw_ts C
  obtain ⟨Φ, hΦ, hk1⟩ := Pr_orders (xs (i + 1)).toInt M hI
  refine lv_aload_n hx hb dL_law_481 rfl (lv_at hl 1 rfl) ?_
  refine lw_arg (k := 1) C rfl hW.2.2 (lv_at hl 0 rfl) (lv_at hl 3 rfl) dL_law_482 dL_law_483 dL_law_484 dL_law_485 dL_law_486 (by omega) ?_
  refine lw_call (av := [.inl (xs (i + 1)).toInt]) (rest := []) (k := 0) C (Nat.le_refl _) hW hM ffX6 nnX6_orders wq_2_206 wq_2_207 wq_2_208 (by decide +kernel) (by intro v hv; simp only [List.mem_cons, List.not_mem_nil, or_false] at hv; subst hv; exact dn_ri _) rfl hΦ (by simp [dt_cv, Int32.ofInt_toInt, Int64.ofInt_toInt]) (Nat.le_of_ble_eq_true rfl) hl.1 dL_law_487 (fun r M' H locs hr ho hM' hW => ?_)
  obtain ⟨v, rfl⟩ := okr_l ho
  obtain ⟨Ψ, hΨ, hk2⟩ := hk1 _ M' hr
  have hM := hM'
  refine lv_aload_n hx hb dL_law_490 rfl (lv_at hl 2 rfl) ?_
  refine lw_arg (k := 1) C rfl hW.2.2 (lv_at hl 0 rfl) (lv_at hl 3 rfl) dL_law_491 dL_law_492 dL_law_493 dL_law_494 dL_law_495 (by omega) ?_
  refine lw_call (av := [.inl (xs (i + 1)).toInt]) (rest := [.long (Int64.ofInt v)]) (k := 62) C (Nat.le_refl _) hW hM ffX7 nnX7_orders wq_4_123 wq_4_124 wq_4_125 (by decide +kernel) (by intro v hv; simp only [List.mem_cons, List.not_mem_nil, or_false] at hv; subst hv; exact dn_ri _) rfl hΨ (by simp [dt_cv, Int32.ofInt_toInt, Int64.ofInt_toInt]) (Nat.le_of_ble_eq_true rfl) hl.1 dL_law_496 (fun r' M2 H locs hr2 ho2 hM2 hW => ?_)
  obtain ⟨rfl, hI2⟩ := hk2 r' M2 hr2
  refine W.lcmp hx hb dL_law_499 ?_
  refine lv_if_eq (tgt := 792) hx hb dL_law_500 (by decide) (fun _ => nx M2 H locs hI2 hM2 hW) (fun q => absurd (by simp [lg_cmp]) q)
set_option maxHeartbeats 1000000 in
theorem lc_10 (C : LC p s m meth c b L xs D ad cA) {i : Nat} (hi : i + 5 ≤ L) {H : Heap} {locs : List Loc} {M : dt_M} {ls : Array Slot} (hI : Inv M) (hM : dt_RM M) (hW : dt_W D ad cA (lA s) s H locs M) (hl : lv_has ls 4 [(0, .ref b), (1, .ref (ad 0)), (2, .ref (ad 62)), (3, .int (Int32.ofInt (i : Int)))])
    (nx : ∀ (M : dt_M) (H : Heap) (locs : List Loc), Inv M → dt_RM M → dt_W D ad cA (lA s) s H locs M → W p l e room_1 s m #[Value.ref b] below meth c H locs 600000 7302250 Q (F0 m 792 ls [])) : W p l e room_1 s m #[Value.ref b] below meth c H locs 600000 7302250 Q (F0 m 505 ls []) := by
  have hL := C.2.1
  have hx := C.1.1
  have hb := C.1.2.1
  have hown := C.1.2.2.2.2.1
  have hts := lw_ts C
  obtain ⟨Φ, hΦ, hk1⟩ := Pr_moments (xs (i + 1)).toInt M hI
  refine lv_aload_n hx hb dL_law_505 rfl (lv_at hl 1 rfl) ?_
  refine lw_arg (k := 1) C rfl hW.2.2 (lv_at hl 0 rfl) (lv_at hl 3 rfl) dL_law_506 dL_law_507 dL_law_508 dL_law_509 dL_law_510 (by omega) ?_
  refine lw_call (av := [.inl (xs (i + 1)).toInt]) (rest := []) (k := 0) C (Nat.le_refl _) hW hM ffX6 nnX6_moments wq_2_238 wq_2_239 wq_3_0 (by decide +kernel) (by intro v hv; simp only [List.mem_cons, List.not_mem_nil, or_false] at hv; subst hv; exact dn_ri _) rfl hΦ (by simp [dt_cv, Int32.ofInt_toInt, Int64.ofInt_toInt]) (Nat.le_of_ble_eq_true rfl) hl.1 dL_law_511 (fun r M' H locs hr ho hM' hW => ?_)
  obtain ⟨v, rfl⟩ := okr_i ho
  obtain ⟨Ψ, hΨ, hk2⟩ := hk1 _ M' hr
  have hM := hM'
  refine lv_aload_n hx hb dL_law_514 rfl (lv_at hl 2 rfl) ?_
  refine lw_arg (k := 1) C rfl hW.2.2 (lv_at hl 0 rfl) (lv_at hl 3 rfl) dL_law_515 dL_law_516 dL_law_517 dL_law_518 dL_law_519 (by omega) ?_
  refine lw_call (av := [.inl (xs (i + 1)).toInt]) (rest := [.int (Int32.ofInt v)]) (k := 62) C (Nat.le_refl _) hW hM ffX7 nnX7_moments wq_4_147 wq_4_148 wq_4_149 (by decide +kernel) (by intro v hv; simp only [List.mem_cons, List.not_mem_nil, or_false] at hv; subst hv; exact dn_ri _) rfl hΨ (by simp [dt_cv, Int32.ofInt_toInt, Int64.ofInt_toInt]) (Nat.le_of_ble_eq_true rfl) hl.1 dL_law_520 (fun r' M2 H locs hr2 ho2 hM2 hW => ?_)
  obtain ⟨rfl, hI2⟩ := hk2 r' M2 hr2
  refine lv_icmp_eq (tgt := 792) hx hb dL_law_523 (by decide) (fun _ => nx M2 H locs hI2 hM2 hW) (fun q => absurd rfl q)
set_option maxHeartbeats 1000000 in
theorem lc_11 (C : LC p s m meth c b L xs D ad cA) {i : Nat} (hi : i + 5 ≤ L) {H : Heap} {locs : List Loc} {M : dt_M} {ls : Array Slot} (hI : Inv M) (hM : dt_RM M) (hW : dt_W D ad cA (lA s) s H locs M) (hl : lv_has ls 4 [(0, .ref b), (1, .ref (ad 0)), (2, .ref (ad 62)), (3, .int (Int32.ofInt (i : Int)))])
    (nx : ∀ (M : dt_M) (H : Heap) (locs : List Loc), Inv M → dt_RM M → dt_W D ad cA (lA s) s H locs M → W p l e room_1 s m #[Value.ref b] below meth c H locs 600000 7302250 Q (F0 m 792 ls [])) : W p l e room_1 s m #[Value.ref b] below meth c H locs 600000 7302250 Q (F0 m 528 ls []) := by
  have hL := C.2.1
  have hx := C.1.1
  have hb := C.1.2.1
  have hown := C.1.2.2.2.2.1
  have hts := lw_ts C
  obtain ⟨Φ, hΦ, hk1⟩ := Pr_under (xs (i + 1)).toInt (xs (i + 2)).toInt M hI
  refine lv_aload_n hx hb dL_law_528 rfl (lv_at hl 1 rfl) ?_
  refine lw_arg (k := 1) C rfl hW.2.2 (lv_at hl 0 rfl) (lv_at hl 3 rfl) dL_law_529 dL_law_530 dL_law_531 dL_law_532 dL_law_533 (by omega) ?_
  refine lw_arg (k := 2) C rfl hW.2.2 (lv_at hl 0 rfl) (lv_at hl 3 rfl) dL_law_534 dL_law_535 dL_law_536 dL_law_537 dL_law_538 (by omega) ?_
  refine lw_call (av := [.inl (xs (i + 1)).toInt, .inl (xs (i + 2)).toInt]) (rest := []) (k := 0) C (Nat.le_refl _) hW hM ffX6 nnX6_under wq_3_2 wq_3_3 wq_3_4 (by decide +kernel) (by intro v hv; simp only [List.mem_cons, List.not_mem_nil, or_false] at hv; rcases hv with rfl | rfl <;> first | exact dn_ri _ | exact dn_rl _) rfl hΦ (by simp [dt_cv, Int32.ofInt_toInt, Int64.ofInt_toInt]) (Nat.le_of_ble_eq_true rfl) hl.1 dL_law_539 (fun r M' H locs hr ho hM' hW => ?_)
  obtain ⟨v, rfl⟩ := okr_i ho
  obtain ⟨Ψ, hΨ, hk2⟩ := hk1 _ M' hr
  have hM := hM'
  refine lv_aload_n hx hb dL_law_542 rfl (lv_at hl 2 rfl) ?_
  refine lw_arg (k := 1) C rfl hW.2.2 (lv_at hl 0 rfl) (lv_at hl 3 rfl) dL_law_543 dL_law_544 dL_law_545 dL_law_546 dL_law_547 (by omega) ?_
  refine lw_arg (k := 2) C rfl hW.2.2 (lv_at hl 0 rfl) (lv_at hl 3 rfl) dL_law_548 dL_law_549 dL_law_550 dL_law_551 dL_law_552 (by omega) ?_
  refine lw_call (av := [.inl (xs (i + 1)).toInt, .inl (xs (i + 2)).toInt]) (rest := [.int (Int32.ofInt v)]) (k := 62) C (Nat.le_refl _) hW hM ffX7 nnX7_under wq_4_151 wq_4_152 wq_4_153 (by decide +kernel) (by intro v hv; simp only [List.mem_cons, List.not_mem_nil, or_false] at hv; rcases hv with rfl | rfl <;> first | exact dn_ri _ | exact dn_rl _) rfl hΨ (by simp [dt_cv, Int32.ofInt_toInt, Int64.ofInt_toInt]) (Nat.le_of_ble_eq_true rfl) hl.1 dL_law_553 (fun r' M2 H locs hr2 ho2 hM2 hW => ?_)
  obtain ⟨rfl, hI2⟩ := hk2 r' M2 hr2
  refine lv_icmp_eq (tgt := 792) hx hb dL_law_556 (by decide) (fun _ => nx M2 H locs hI2 hM2 hW) (fun q => absurd rfl q)
set_option maxHeartbeats 1000000 in
theorem lc_12 (C : LC p s m meth c b L xs D ad cA) {i : Nat} (hi : i + 5 ≤ L) {H : Heap} {locs : List Loc} {M : dt_M} {ls : Array Slot} (hI : Inv M) (hM : dt_RM M) (hW : dt_W D ad cA (lA s) s H locs M) (hl : lv_has ls 4 [(0, .ref b), (1, .ref (ad 0)), (2, .ref (ad 62)), (3, .int (Int32.ofInt (i : Int)))])
    (nx : ∀ (M : dt_M) (H : Heap) (locs : List Loc), Inv M → dt_RM M → dt_W D ad cA (lA s) s H locs M → W p l e room_1 s m #[Value.ref b] below meth c H locs 600000 7302250 Q (F0 m 792 ls [])) : W p l e room_1 s m #[Value.ref b] below meth c H locs 600000 7302250 Q (F0 m 561 ls []) := by
  have hL := C.2.1
  have hx := C.1.1
  have hb := C.1.2.1
  have hown := C.1.2.2.2.2.1
  have hts := lw_ts C
  obtain ⟨Φ, hΦ, hk1⟩ := Pr_alike (xs (i + 1)).toInt (xs (i + 2)).toInt M hI
  refine lv_aload_n hx hb dL_law_561 rfl (lv_at hl 1 rfl) ?_
  refine lw_arg (k := 1) C rfl hW.2.2 (lv_at hl 0 rfl) (lv_at hl 3 rfl) dL_law_562 dL_law_563 dL_law_564 dL_law_565 dL_law_566 (by omega) ?_
  refine lw_arg (k := 2) C rfl hW.2.2 (lv_at hl 0 rfl) (lv_at hl 3 rfl) dL_law_567 dL_law_568 dL_law_569 dL_law_570 dL_law_571 (by omega) ?_
  refine lw_call (av := [.inl (xs (i + 1)).toInt, .inl (xs (i + 2)).toInt]) (rest := []) (k := 0) C (Nat.le_refl _) hW hM ffX6 nnX6_alike wq_3_6 wq_3_7 wq_3_8 (by decide +kernel) (by intro v hv; simp only [List.mem_cons, List.not_mem_nil, or_false] at hv; rcases hv with rfl | rfl <;> first | exact dn_ri _ | exact dn_rl _) rfl hΦ (by simp [dt_cv, Int32.ofInt_toInt, Int64.ofInt_toInt]) (Nat.le_of_ble_eq_true rfl) hl.1 dL_law_572 (fun r M' H locs hr ho hM' hW => ?_)
  obtain ⟨v, rfl⟩ := okr_i ho
  obtain ⟨Ψ, hΨ, hk2⟩ := hk1 _ M' hr
  have hM := hM'
  refine lv_aload_n hx hb dL_law_575 rfl (lv_at hl 2 rfl) ?_
  refine lw_arg (k := 1) C rfl hW.2.2 (lv_at hl 0 rfl) (lv_at hl 3 rfl) dL_law_576 dL_law_577 dL_law_578 dL_law_579 dL_law_580 (by omega) ?_
  refine lw_arg (k := 2) C rfl hW.2.2 (lv_at hl 0 rfl) (lv_at hl 3 rfl) dL_law_581 dL_law_582 dL_law_583 dL_law_584 dL_law_585 (by omega) ?_
  refine lw_call (av := [.inl (xs (i + 1)).toInt, .inl (xs (i + 2)).toInt]) (rest := [.int (Int32.ofInt v)]) (k := 62) C (Nat.le_refl _) hW hM ffX7 nnX7_alike wq_4_155 wq_4_156 wq_4_157 (by decide +kernel) (by intro v hv; simp only [List.mem_cons, List.not_mem_nil, or_false] at hv; rcases hv with rfl | rfl <;> first | exact dn_ri _ | exact dn_rl _) rfl hΨ (by simp [dt_cv, Int32.ofInt_toInt, Int64.ofInt_toInt]) (Nat.le_of_ble_eq_true rfl) hl.1 dL_law_586 (fun r' M2 H locs hr2 ho2 hM2 hW => ?_)
  obtain ⟨rfl, hI2⟩ := hk2 r' M2 hr2
  refine lv_icmp_eq (tgt := 792) hx hb dL_law_589 (by decide) (fun _ => nx M2 H locs hI2 hM2 hW) (fun q => absurd rfl q)
set_option maxHeartbeats 1000000 in
theorem lc_13 (C : LC p s m meth c b L xs D ad cA) {i : Nat} (hi : i + 5 ≤ L) {H : Heap} {locs : List Loc} {M : dt_M} {ls : Array Slot} (hI : Inv M) (hM : dt_RM M) (hW : dt_W D ad cA (lA s) s H locs M) (hl : lv_has ls 4 [(0, .ref b), (1, .ref (ad 0)), (2, .ref (ad 62)), (3, .int (Int32.ofInt (i : Int)))])
    (nx : ∀ (M : dt_M) (H : Heap) (locs : List Loc), Inv M → dt_RM M → dt_W D ad cA (lA s) s H locs M → W p l e room_1 s m #[Value.ref b] below meth c H locs 600000 7302250 Q (F0 m 792 ls [])) : W p l e room_1 s m #[Value.ref b] below meth c H locs 600000 7302250 Q (F0 m 594 ls []) := by
  have hL := C.2.1
  have hx := C.1.1
  have hb := C.1.2.1
  have hown := C.1.2.2.2.2.1
  have hts := lw_ts C
  obtain ⟨Φ, hΦ, hk1⟩ := Pr_behind (xs (i + 1)).toInt (xs (i + 2)).toInt (xs (i + 3)).toInt M hI
  refine lv_aload_n hx hb dL_law_594 rfl (lv_at hl 1 rfl) ?_
  refine lw_arg (k := 1) C rfl hW.2.2 (lv_at hl 0 rfl) (lv_at hl 3 rfl) dL_law_595 dL_law_596 dL_law_597 dL_law_598 dL_law_599 (by omega) ?_
  refine lw_arg (k := 2) C rfl hW.2.2 (lv_at hl 0 rfl) (lv_at hl 3 rfl) dL_law_600 dL_law_601 dL_law_602 dL_law_603 dL_law_604 (by omega) ?_
  refine lw_arg (k := 3) C rfl hW.2.2 (lv_at hl 0 rfl) (lv_at hl 3 rfl) dL_law_605 dL_law_606 dL_law_607 dL_law_608 dL_law_609 (by omega) ?_
  refine lw_call (av := [.inl (xs (i + 1)).toInt, .inl (xs (i + 2)).toInt, .inl (xs (i + 3)).toInt]) (rest := []) (k := 0) C (Nat.le_refl _) hW hM ffX6 nnX6_behind wq_3_15 wq_3_16 wq_3_17 (by decide +kernel) (by intro v hv; simp only [List.mem_cons, List.not_mem_nil, or_false] at hv; rcases hv with rfl | rfl | rfl <;> first | exact dn_ri _ | exact dn_rl _) rfl hΦ (by simp [dt_cv, Int32.ofInt_toInt, Int64.ofInt_toInt]) (Nat.le_of_ble_eq_true rfl) hl.1 dL_law_610 (fun r M' H locs hr ho hM' hW => ?_)
  obtain ⟨v, rfl⟩ := okr_i ho
  obtain ⟨Ψ, hΨ, hk2⟩ := hk1 _ M' hr
  have hM := hM'
  refine lv_aload_n hx hb dL_law_613 rfl (lv_at hl 2 rfl) ?_
  refine lw_arg (k := 1) C rfl hW.2.2 (lv_at hl 0 rfl) (lv_at hl 3 rfl) dL_law_614 dL_law_615 dL_law_616 dL_law_617 dL_law_618 (by omega) ?_
  refine lw_arg (k := 2) C rfl hW.2.2 (lv_at hl 0 rfl) (lv_at hl 3 rfl) dL_law_619 dL_law_620 dL_law_621 dL_law_622 dL_law_623 (by omega) ?_
  refine lw_arg (k := 3) C rfl hW.2.2 (lv_at hl 0 rfl) (lv_at hl 3 rfl) dL_law_624 dL_law_625 dL_law_626 dL_law_627 dL_law_628 (by omega) ?_
  refine lw_call (av := [.inl (xs (i + 1)).toInt, .inl (xs (i + 2)).toInt, .inl (xs (i + 3)).toInt]) (rest := [.int (Int32.ofInt v)]) (k := 62) C (Nat.le_refl _) hW hM ffX7 nnX7_behind wq_4_167 wq_4_168 wq_4_169 (by decide +kernel) (by intro v hv; simp only [List.mem_cons, List.not_mem_nil, or_false] at hv; rcases hv with rfl | rfl | rfl <;> first | exact dn_ri _ | exact dn_rl _) rfl hΨ (by simp [dt_cv, Int32.ofInt_toInt, Int64.ofInt_toInt]) (Nat.le_of_ble_eq_true rfl) hl.1 dL_law_629 (fun r' M2 H locs hr2 ho2 hM2 hW => ?_)
  obtain ⟨rfl, hI2⟩ := hk2 r' M2 hr2
  refine lv_icmp_eq (tgt := 792) hx hb dL_law_632 (by decide) (fun _ => nx M2 H locs hI2 hM2 hW) (fun q => absurd rfl q)
set_option maxHeartbeats 1000000 in
theorem lc_14 (C : LC p s m meth c b L xs D ad cA) {i : Nat} (hi : i + 5 ≤ L) {H : Heap} {locs : List Loc} {M : dt_M} {ls : Array Slot} (hI : Inv M) (hM : dt_RM M) (hW : dt_W D ad cA (lA s) s H locs M) (hl : lv_has ls 4 [(0, .ref b), (1, .ref (ad 0)), (2, .ref (ad 62)), (3, .int (Int32.ofInt (i : Int)))])
    (nx : ∀ (M : dt_M) (H : Heap) (locs : List Loc), Inv M → dt_RM M → dt_W D ad cA (lA s) s H locs M → W p l e room_1 s m #[Value.ref b] below meth c H locs 600000 7302250 Q (F0 m 792 ls [])) : W p l e room_1 s m #[Value.ref b] below meth c H locs 600000 7302250 Q (F0 m 637 ls []) := by
  have hL := C.2.1
  have hx := C.1.1
  have hb := C.1.2.1
  have hown := C.1.2.2.2.2.1
  have hts := lw_ts C
  obtain ⟨Φ, hΦ, hk1⟩ := Pr_play (xs (i + 1)).toInt (xs (i + 2)).toInt M hI
  refine lv_aload_n hx hb dL_law_637 rfl (lv_at hl 1 rfl) ?_
  refine lw_arg (k := 1) C rfl hW.2.2 (lv_at hl 0 rfl) (lv_at hl 3 rfl) dL_law_638 dL_law_639 dL_law_640 dL_law_641 dL_law_642 (by omega) ?_
  refine lw_arg (k := 2) C rfl hW.2.2 (lv_at hl 0 rfl) (lv_at hl 3 rfl) dL_law_643 dL_law_644 dL_law_645 dL_law_646 dL_law_647 (by omega) ?_
  refine lw_call (av := [.inl (xs (i + 1)).toInt, .inl (xs (i + 2)).toInt]) (rest := []) (k := 0) C (Nat.le_refl _) hW hM ffX6 nnX6_play wq_3_19 wq_3_20 wq_3_21 (by decide +kernel) (by intro v hv; simp only [List.mem_cons, List.not_mem_nil, or_false] at hv; rcases hv with rfl | rfl <;> first | exact dn_ri _ | exact dn_rl _) rfl hΦ (by simp [dt_cv, Int32.ofInt_toInt, Int64.ofInt_toInt]) (Nat.le_of_ble_eq_true rfl) hl.1 dL_law_648 (fun r M' H locs hr ho hM' hW => ?_)
  obtain ⟨v, rfl⟩ := okr_i ho
  obtain ⟨Ψ, hΨ, hk2⟩ := hk1 _ M' hr
  have hM := hM'
  refine lv_aload_n hx hb dL_law_651 rfl (lv_at hl 2 rfl) ?_
  refine lw_arg (k := 1) C rfl hW.2.2 (lv_at hl 0 rfl) (lv_at hl 3 rfl) dL_law_652 dL_law_653 dL_law_654 dL_law_655 dL_law_656 (by omega) ?_
  refine lw_arg (k := 2) C rfl hW.2.2 (lv_at hl 0 rfl) (lv_at hl 3 rfl) dL_law_657 dL_law_658 dL_law_659 dL_law_660 dL_law_661 (by omega) ?_
  refine lw_call (av := [.inl (xs (i + 1)).toInt, .inl (xs (i + 2)).toInt]) (rest := [.int (Int32.ofInt v)]) (k := 62) C (Nat.le_refl _) hW hM ffX7 nnX7_play wq_4_175 wq_4_176 wq_4_177 (by decide +kernel) (by intro v hv; simp only [List.mem_cons, List.not_mem_nil, or_false] at hv; rcases hv with rfl | rfl <;> first | exact dn_ri _ | exact dn_rl _) rfl hΨ (by simp [dt_cv, Int32.ofInt_toInt, Int64.ofInt_toInt]) (Nat.le_of_ble_eq_true rfl) hl.1 dL_law_662 (fun r' M2 H locs hr2 ho2 hM2 hW => ?_)
  obtain ⟨rfl, hI2⟩ := hk2 r' M2 hr2
  refine lv_icmp_eq (tgt := 792) hx hb dL_law_665 (by decide) (fun _ => nx M2 H locs hI2 hM2 hW) (fun q => absurd rfl q)
set_option maxHeartbeats 1000000 in
theorem lc_15 (C : LC p s m meth c b L xs D ad cA) {i : Nat} (hi : i + 5 ≤ L) {H : Heap} {locs : List Loc} {M : dt_M} {ls : Array Slot} (hI : Inv M) (hM : dt_RM M) (hW : dt_W D ad cA (lA s) s H locs M) (hl : lv_has ls 4 [(0, .ref b), (1, .ref (ad 0)), (2, .ref (ad 62)), (3, .int (Int32.ofInt (i : Int)))])
    (nx : ∀ (M : dt_M) (H : Heap) (locs : List Loc), Inv M → dt_RM M → dt_W D ad cA (lA s) s H locs M → W p l e room_1 s m #[Value.ref b] below meth c H locs 600000 7302250 Q (F0 m 792 ls [])) : W p l e room_1 s m #[Value.ref b] below meth c H locs 600000 7302250 Q (F0 m 670 ls []) := by
  have hL := C.2.1
  have hx := C.1.1
  have hb := C.1.2.1
  have hown := C.1.2.2.2.2.1
  have hts := lw_ts C
  obtain ⟨Φ, hΦ, hk1⟩ := Pr_mixes (xs (i + 1)).toInt (xs (i + 2)).toInt M hI
  refine lv_aload_n hx hb dL_law_670 rfl (lv_at hl 1 rfl) ?_
  refine lw_arg (k := 1) C rfl hW.2.2 (lv_at hl 0 rfl) (lv_at hl 3 rfl) dL_law_671 dL_law_672 dL_law_673 dL_law_674 dL_law_675 (by omega) ?_
  refine lw_arg (k := 2) C rfl hW.2.2 (lv_at hl 0 rfl) (lv_at hl 3 rfl) dL_law_676 dL_law_677 dL_law_678 dL_law_679 dL_law_680 (by omega) ?_
  refine lw_call (av := [.inl (xs (i + 1)).toInt, .inl (xs (i + 2)).toInt]) (rest := []) (k := 0) C (Nat.le_refl _) hW hM ffX6 nnX6_mixes wq_3_66 wq_3_67 wq_3_68 (by decide +kernel) (by intro v hv; simp only [List.mem_cons, List.not_mem_nil, or_false] at hv; rcases hv with rfl | rfl <;> first | exact dn_ri _ | exact dn_rl _) rfl hΦ (by simp [dt_cv, Int32.ofInt_toInt, Int64.ofInt_toInt]) (Nat.le_of_ble_eq_true rfl) hl.1 dL_law_681 (fun r M' H locs hr ho hM' hW => ?_)
  obtain ⟨v, rfl⟩ := okr_i ho
  obtain ⟨Ψ, hΨ, hk2⟩ := hk1 _ M' hr
  have hM := hM'
  refine lv_aload_n hx hb dL_law_684 rfl (lv_at hl 2 rfl) ?_
  refine lw_arg (k := 1) C rfl hW.2.2 (lv_at hl 0 rfl) (lv_at hl 3 rfl) dL_law_685 dL_law_686 dL_law_687 dL_law_688 dL_law_689 (by omega) ?_
  refine lw_arg (k := 2) C rfl hW.2.2 (lv_at hl 0 rfl) (lv_at hl 3 rfl) dL_law_690 dL_law_691 dL_law_692 dL_law_693 dL_law_694 (by omega) ?_
  refine lw_call (av := [.inl (xs (i + 1)).toInt, .inl (xs (i + 2)).toInt]) (rest := [.int (Int32.ofInt v)]) (k := 62) C (Nat.le_refl _) hW hM ffX7 nnX7_mixes wq_4_194 wq_4_195 wq_4_196 (by decide +kernel) (by intro v hv; simp only [List.mem_cons, List.not_mem_nil, or_false] at hv; rcases hv with rfl | rfl <;> first | exact dn_ri _ | exact dn_rl _) rfl hΨ (by simp [dt_cv, Int32.ofInt_toInt, Int64.ofInt_toInt]) (Nat.le_of_ble_eq_true rfl) hl.1 dL_law_695 (fun r' M2 H locs hr2 ho2 hM2 hW => ?_)
  obtain ⟨rfl, hI2⟩ := hk2 r' M2 hr2
  refine lv_icmp_eq (tgt := 792) hx hb dL_law_698 (by decide) (fun _ => nx M2 H locs hI2 hM2 hW) (fun q => absurd rfl q)
set_option maxHeartbeats 1000000 in
theorem lc_16 (C : LC p s m meth c b L xs D ad cA) {i : Nat} (hi : i + 5 ≤ L) {H : Heap} {locs : List Loc} {M : dt_M} {ls : Array Slot} (hI : Inv M) (hM : dt_RM M) (hW : dt_W D ad cA (lA s) s H locs M) (hl : lv_has ls 4 [(0, .ref b), (1, .ref (ad 0)), (2, .ref (ad 62)), (3, .int (Int32.ofInt (i : Int)))])
    (nx : ∀ (M : dt_M) (H : Heap) (locs : List Loc), Inv M → dt_RM M → dt_W D ad cA (lA s) s H locs M → W p l e room_1 s m #[Value.ref b] below meth c H locs 600000 7302250 Q (F0 m 792 ls [])) : W p l e room_1 s m #[Value.ref b] below meth c H locs 600000 7302250 Q (F0 m 703 ls []) := by
  have hL := C.2.1
  have hx := C.1.1
  have hb := C.1.2.1
  have hown := C.1.2.2.2.2.1
  have hts := lw_ts C
  obtain ⟨Φ, hΦ, hk1⟩ := Pr_fresh (xs (i + 1)).toInt (xs (i + 2)).toInt M hI
  refine lv_aload_n hx hb dL_law_703 rfl (lv_at hl 1 rfl) ?_
  refine lw_arg (k := 1) C rfl hW.2.2 (lv_at hl 0 rfl) (lv_at hl 3 rfl) dL_law_704 dL_law_705 dL_law_706 dL_law_707 dL_law_708 (by omega) ?_
  refine lw_arg (k := 2) C rfl hW.2.2 (lv_at hl 0 rfl) (lv_at hl 3 rfl) dL_law_709 dL_law_710 dL_law_711 dL_law_712 dL_law_713 (by omega) ?_
  refine lw_call (av := [.inl (xs (i + 1)).toInt, .inl (xs (i + 2)).toInt]) (rest := []) (k := 0) C (Nat.le_refl _) hW hM ffX6 nnX6_fresh wq_3_109 wq_3_110 wq_3_111 (by decide +kernel) (by intro v hv; simp only [List.mem_cons, List.not_mem_nil, or_false] at hv; rcases hv with rfl | rfl <;> first | exact dn_ri _ | exact dn_rl _) rfl hΦ (by simp [dt_cv, Int32.ofInt_toInt, Int64.ofInt_toInt]) (Nat.le_of_ble_eq_true rfl) hl.1 dL_law_714 (fun r M' H locs hr ho hM' hW => ?_)
  obtain ⟨v, rfl⟩ := okr_i ho
  obtain ⟨Ψ, hΨ, hk2⟩ := hk1 _ M' hr
  have hM := hM'
  refine lv_aload_n hx hb dL_law_717 rfl (lv_at hl 2 rfl) ?_
  refine lw_arg (k := 1) C rfl hW.2.2 (lv_at hl 0 rfl) (lv_at hl 3 rfl) dL_law_718 dL_law_719 dL_law_720 dL_law_721 dL_law_722 (by omega) ?_
  refine lw_arg (k := 2) C rfl hW.2.2 (lv_at hl 0 rfl) (lv_at hl 3 rfl) dL_law_723 dL_law_724 dL_law_725 dL_law_726 dL_law_727 (by omega) ?_
  refine lw_call (av := [.inl (xs (i + 1)).toInt, .inl (xs (i + 2)).toInt]) (rest := [.int (Int32.ofInt v)]) (k := 62) C (Nat.le_refl _) hW hM ffX7 nnX7_fresh wq_4_210 wq_4_211 wq_4_212 (by decide +kernel) (by intro v hv; simp only [List.mem_cons, List.not_mem_nil, or_false] at hv; rcases hv with rfl | rfl <;> first | exact dn_ri _ | exact dn_rl _) rfl hΨ (by simp [dt_cv, Int32.ofInt_toInt, Int64.ofInt_toInt]) (Nat.le_of_ble_eq_true rfl) hl.1 dL_law_728 (fun r' M2 H locs hr2 ho2 hM2 hW => ?_)
  obtain ⟨rfl, hI2⟩ := hk2 r' M2 hr2
  refine lv_icmp_eq (tgt := 792) hx hb dL_law_731 (by decide) (fun _ => nx M2 H locs hI2 hM2 hW) (fun q => absurd rfl q)
set_option maxHeartbeats 1000000 in
theorem lc_17 (C : LC p s m meth c b L xs D ad cA) {i : Nat} (hi : i + 5 ≤ L) {H : Heap} {locs : List Loc} {M : dt_M} {ls : Array Slot} (hI : Inv M) (hM : dt_RM M) (hW : dt_W D ad cA (lA s) s H locs M) (hl : lv_has ls 4 [(0, .ref b), (1, .ref (ad 0)), (2, .ref (ad 62)), (3, .int (Int32.ofInt (i : Int)))])
    (nx : ∀ (M : dt_M) (H : Heap) (locs : List Loc), Inv M → dt_RM M → dt_W D ad cA (lA s) s H locs M → W p l e room_1 s m #[Value.ref b] below meth c H locs 600000 7302250 Q (F0 m 792 ls [])) : W p l e room_1 s m #[Value.ref b] below meth c H locs 600000 7302250 Q (F0 m 736 ls []) := by
  have hL := C.2.1
  have hx := C.1.1
  have hb := C.1.2.1
  have hown := C.1.2.2.2.2.1
  have hts := lw_ts C
  obtain ⟨Φ, hΦ, hk1⟩ := Pr_take (xs (i + 1)).toInt (xs (i + 2)).toInt M hI
  refine lv_aload_n hx hb dL_law_736 rfl (lv_at hl 1 rfl) ?_
  refine lw_arg (k := 1) C rfl hW.2.2 (lv_at hl 0 rfl) (lv_at hl 3 rfl) dL_law_737 dL_law_738 dL_law_739 dL_law_740 dL_law_741 (by omega) ?_
  refine lw_arg (k := 2) C rfl hW.2.2 (lv_at hl 0 rfl) (lv_at hl 3 rfl) dL_law_742 dL_law_743 dL_law_744 dL_law_745 dL_law_746 (by omega) ?_
  refine lw_call (av := [.inl (xs (i + 1)).toInt, .inl (xs (i + 2)).toInt]) (rest := []) (k := 0) C (Nat.le_refl _) hW hM ffX6 nnX6_take wq_3_117 wq_3_118 wq_3_119 (by decide +kernel) (by intro v hv; simp only [List.mem_cons, List.not_mem_nil, or_false] at hv; rcases hv with rfl | rfl <;> first | exact dn_ri _ | exact dn_rl _) rfl hΦ (by simp [dt_cv, Int32.ofInt_toInt, Int64.ofInt_toInt]) (Nat.le_of_ble_eq_true rfl) hl.1 dL_law_747 (fun r M' H locs hr ho hM' hW => ?_)
  obtain ⟨v, rfl⟩ := okr_i ho
  obtain ⟨Ψ, hΨ, hk2⟩ := hk1 _ M' hr
  have hM := hM'
  refine lv_aload_n hx hb dL_law_750 rfl (lv_at hl 2 rfl) ?_
  refine lw_arg (k := 1) C rfl hW.2.2 (lv_at hl 0 rfl) (lv_at hl 3 rfl) dL_law_751 dL_law_752 dL_law_753 dL_law_754 dL_law_755 (by omega) ?_
  refine lw_arg (k := 2) C rfl hW.2.2 (lv_at hl 0 rfl) (lv_at hl 3 rfl) dL_law_756 dL_law_757 dL_law_758 dL_law_759 dL_law_760 (by omega) ?_
  refine lw_call (av := [.inl (xs (i + 1)).toInt, .inl (xs (i + 2)).toInt]) (rest := [.int (Int32.ofInt v)]) (k := 62) C (Nat.le_refl _) hW hM ffX7 nnX7_take wq_4_214 wq_4_215 wq_4_216 (by decide +kernel) (by intro v hv; simp only [List.mem_cons, List.not_mem_nil, or_false] at hv; rcases hv with rfl | rfl <;> first | exact dn_ri _ | exact dn_rl _) rfl hΨ (by simp [dt_cv, Int32.ofInt_toInt, Int64.ofInt_toInt]) (Nat.le_of_ble_eq_true rfl) hl.1 dL_law_761 (fun r' M2 H locs hr2 ho2 hM2 hW => ?_)
  obtain ⟨rfl, hI2⟩ := hk2 r' M2 hr2
  refine lv_icmp_eq (tgt := 792) hx hb dL_law_764 (by decide) (fun _ => nx M2 H locs hI2 hM2 hW) (fun q => absurd rfl q)
set_option maxHeartbeats 1000000 in
theorem lc_18 (C : LC p s m meth c b L xs D ad cA) {i : Nat} (hi : i + 5 ≤ L) {H : Heap} {locs : List Loc} {M : dt_M} {ls : Array Slot} (hI : Inv M) (hM : dt_RM M) (hW : dt_W D ad cA (lA s) s H locs M) (hl : lv_has ls 4 [(0, .ref b), (1, .ref (ad 0)), (2, .ref (ad 62)), (3, .int (Int32.ofInt (i : Int)))])
    (nx : ∀ (M : dt_M) (H : Heap) (locs : List Loc), Inv M → dt_RM M → dt_W D ad cA (lA s) s H locs M → W p l e room_1 s m #[Value.ref b] below meth c H locs 600000 7302250 Q (F0 m 792 ls [])) : W p l e room_1 s m #[Value.ref b] below meth c H locs 600000 7302250 Q (F0 m 769 ls []) := by
  have hL := C.2.1
  have hx := C.1.1
  have hb := C.1.2.1
  have hown := C.1.2.2.2.2.1
  have hts := lw_ts C
  obtain ⟨Φ, hΦ, hk1⟩ := Pr_count (xs (i + 1)).toInt M hI
  refine lv_aload_n hx hb dL_law_769 rfl (lv_at hl 1 rfl) ?_
  refine lw_arg (k := 1) C rfl hW.2.2 (lv_at hl 0 rfl) (lv_at hl 3 rfl) dL_law_770 dL_law_771 dL_law_772 dL_law_773 dL_law_774 (by omega) ?_
  refine lw_call (av := [.inl (xs (i + 1)).toInt]) (rest := []) (k := 0) C (Nat.le_refl _) hW hM ffX6 nnX6_count wq_3_127 wq_3_128 wq_3_129 (by decide +kernel) (by intro v hv; simp only [List.mem_cons, List.not_mem_nil, or_false] at hv; subst hv; exact dn_ri _) rfl hΦ (by simp [dt_cv, Int32.ofInt_toInt, Int64.ofInt_toInt]) (Nat.le_of_ble_eq_true rfl) hl.1 dL_law_775 (fun r M' H locs hr ho hM' hW => ?_)
  obtain ⟨v, rfl⟩ := okr_i ho
  obtain ⟨Ψ, hΨ, hk2⟩ := hk1 _ M' hr
  have hM := hM'
  refine lv_aload_n hx hb dL_law_778 rfl (lv_at hl 2 rfl) ?_
  refine lw_arg (k := 1) C rfl hW.2.2 (lv_at hl 0 rfl) (lv_at hl 3 rfl) dL_law_779 dL_law_780 dL_law_781 dL_law_782 dL_law_783 (by omega) ?_
  refine lw_call (av := [.inl (xs (i + 1)).toInt]) (rest := [.int (Int32.ofInt v)]) (k := 62) C (Nat.le_refl _) hW hM ffX7 nnX7_count wq_4_218 wq_4_219 wq_4_220 (by decide +kernel) (by intro v hv; simp only [List.mem_cons, List.not_mem_nil, or_false] at hv; subst hv; exact dn_ri _) rfl hΨ (by simp [dt_cv, Int32.ofInt_toInt, Int64.ofInt_toInt]) (Nat.le_of_ble_eq_true rfl) hl.1 dL_law_784 (fun r' M2 H locs hr2 ho2 hM2 hW => ?_)
  obtain ⟨rfl, hI2⟩ := hk2 r' M2 hr2
  refine lv_icmp_eq (tgt := 792) hx hb dL_law_787 (by decide) (fun _ => nx M2 H locs hI2 hM2 hW) (fun q => absurd rfl q)
end LAWC
