/-! the law's twenty cases (printed by wip/whole/gen_law.py) -/
section KWC
variable {p : Program} {l : Launch} {e : Env} {s : State} {m : MethodId} {below : List Frame} {meth : Method} {c : Code} {D : va_G} {ad : Nat → Nat} {cA : Nat → ClassId} {b L i : Nat} {xs : Nat → Int32} {N : Nat} {M : kb_M}
set_option maxRecDepth 100000 in
theorem kw_c_append (C : kw_C p s m c #[Value.ref b] D ad cA b L xs) (hi : i + 5 ≤ L) (hV : ki_V N M M) (hN : N ≤ 600) (kk : ∀ S, ki_V (N + 1) S S → kw_At p l e s m below meth c D ad cA b i 852 S) : kw_At p l e s m below meth c D ad cA b i 128 M := by
  intro ls H locs hl hP hS
  obtain ⟨v, M1, S, hE1, hE2, hV2⟩ := kw_step (z := kz_BK_append) (y := kz_Model_append) (A := [.inl (xs (i + 1)), .inl (xs (i + 2)), .inl (xs (i + 3))]) hV (by simp) (fun R hR => ow_append hR hN _ _ _)
  refine lv_aload_n C.1.1 C.1.2.1 kw_d_128 rfl (lv_at hl 1 rfl) ?_
  refine kw_arg (j := 1) C (by decide) kw_d_129 kw_d_130 kw_d_131 kw_d_132 kw_d_133 hl (by omega) hS ?_
  refine kw_arg (j := 2) C (by decide) kw_d_134 kw_d_135 kw_d_136 kw_d_137 kw_d_138 hl (by omega) hS ?_
  refine kw_arg (j := 3) C (by decide) kw_d_139 kw_d_140 kw_d_141 kw_d_142 kw_d_143 hl (by omega) hS ?_
  refine kw_inv (z := kz_BK_append) (c0 := 0) (as := [xs (i + 1), xs (i + 2), xs (i + 3)]) (rest := []) C hE1 kj_BK_append (kb_all_in (List.mem_of_getElem? (i := 198) rfl) rfl) rfl rfl ⟨(Nat.le_of_ble_eq_true rfl), (Nat.le_of_ble_eq_true rfl)⟩ (Nat.le_of_ble_eq_true rfl) ⟨(Nat.le_of_ble_eq_true rfl), (Nat.le_of_ble_eq_true rfl)⟩ rfl kw_d_144 hl.1 hP hS (fun H locs hP hS => ?_)
  refine lv_aload_n C.1.1 C.1.2.1 kw_d_147 rfl (lv_at hl 2 rfl) ?_
  refine kw_arg (j := 1) C (by decide) kw_d_148 kw_d_149 kw_d_150 kw_d_151 kw_d_152 hl (by omega) hS ?_
  refine kw_arg (j := 2) C (by decide) kw_d_153 kw_d_154 kw_d_155 kw_d_156 kw_d_157 hl (by omega) hS ?_
  refine kw_arg (j := 3) C (by decide) kw_d_158 kw_d_159 kw_d_160 kw_d_161 kw_d_162 hl (by omega) hS ?_
  refine kw_inv (z := kz_Model_append) (c0 := 33) (as := [xs (i + 1), xs (i + 2), xs (i + 3)]) (rest := [.int v]) C hE2 kj_Model_append (kb_all_in (List.mem_of_getElem? (i := 587) rfl) rfl) rfl rfl ⟨(Nat.le_of_ble_eq_true rfl), (Nat.le_of_ble_eq_true rfl)⟩ (Nat.le_of_ble_eq_true rfl) ⟨(Nat.le_of_ble_eq_true rfl), (Nat.le_of_ble_eq_true rfl)⟩ rfl kw_d_163 hl.1 hP hS (fun H locs hP hS => ?_)
  exact lv_icmp_eq (tgt := 852) C.1.1 C.1.2.1 kw_d_166 (by decide) (fun _ => kk S hV2 ls H locs hl hP hS) (fun h => absurd rfl h)
set_option maxRecDepth 100000 in
theorem kw_c_write (C : kw_C p s m c #[Value.ref b] D ad cA b L xs) (hi : i + 5 ≤ L) (hV : ki_V N M M) (hN : N ≤ 600) (kk : ∀ S, ki_V (N + 1) S S → kw_At p l e s m below meth c D ad cA b i 852 S) : kw_At p l e s m below meth c D ad cA b i 171 M := by
  intro ls H locs hl hP hS
  obtain ⟨v, M1, S, hE1, hE2, hV2⟩ := kw_step (z := kz_BK_write) (y := kz_Model_write) (A := [.inl (xs (i + 1)), .inl (xs (i + 2)), .inl (xs (i + 3)), .inl (xs (i + 4))]) hV (by simp) (fun R hR => ow_write hR hN _ _ _ _)
  refine lv_aload_n C.1.1 C.1.2.1 kw_d_171 rfl (lv_at hl 1 rfl) ?_
  refine kw_arg (j := 1) C (by decide) kw_d_172 kw_d_173 kw_d_174 kw_d_175 kw_d_176 hl (by omega) hS ?_
  refine kw_arg (j := 2) C (by decide) kw_d_177 kw_d_178 kw_d_179 kw_d_180 kw_d_181 hl (by omega) hS ?_
  refine kw_arg (j := 3) C (by decide) kw_d_182 kw_d_183 kw_d_184 kw_d_185 kw_d_186 hl (by omega) hS ?_
  refine kw_arg (j := 4) C (by decide) kw_d_187 kw_d_188 kw_d_189 kw_d_190 kw_d_191 hl (by omega) hS ?_
  refine kw_inv (z := kz_BK_write) (c0 := 0) (as := [xs (i + 1), xs (i + 2), xs (i + 3), xs (i + 4)]) (rest := []) C hE1 kj_BK_write (kb_all_in (List.mem_of_getElem? (i := 338) rfl) rfl) rfl rfl ⟨(Nat.le_of_ble_eq_true rfl), (Nat.le_of_ble_eq_true rfl)⟩ (Nat.le_of_ble_eq_true rfl) ⟨(Nat.le_of_ble_eq_true rfl), (Nat.le_of_ble_eq_true rfl)⟩ rfl kw_d_192 hl.1 hP hS (fun H locs hP hS => ?_)
  refine lv_aload_n C.1.1 C.1.2.1 kw_d_195 rfl (lv_at hl 2 rfl) ?_
  refine kw_arg (j := 1) C (by decide) kw_d_196 kw_d_197 kw_d_198 kw_d_199 kw_d_200 hl (by omega) hS ?_
  refine kw_arg (j := 2) C (by decide) kw_d_201 kw_d_202 kw_d_203 kw_d_204 kw_d_205 hl (by omega) hS ?_
  refine kw_arg (j := 3) C (by decide) kw_d_206 kw_d_207 kw_d_208 kw_d_209 kw_d_210 hl (by omega) hS ?_
  refine kw_arg (j := 4) C (by decide) kw_d_211 kw_d_212 kw_d_213 kw_d_214 kw_d_215 hl (by omega) hS ?_
  refine kw_inv (z := kz_Model_write) (c0 := 33) (as := [xs (i + 1), xs (i + 2), xs (i + 3), xs (i + 4)]) (rest := [.int v]) C hE2 kj_Model_write (kb_all_in (List.mem_of_getElem? (i := 640) rfl) rfl) rfl rfl ⟨(Nat.le_of_ble_eq_true rfl), (Nat.le_of_ble_eq_true rfl)⟩ (Nat.le_of_ble_eq_true rfl) ⟨(Nat.le_of_ble_eq_true rfl), (Nat.le_of_ble_eq_true rfl)⟩ rfl kw_d_216 hl.1 hP hS (fun H locs hP hS => ?_)
  exact lv_icmp_eq (tgt := 852) C.1.1 C.1.2.1 kw_d_219 (by decide) (fun _ => kk S hV2 ls H locs hl hP hS) (fun h => absurd rfl h)
set_option maxRecDepth 100000 in
theorem kw_c_read (C : kw_C p s m c #[Value.ref b] D ad cA b L xs) (hi : i + 5 ≤ L) (hV : ki_V N M M) (hN : N ≤ 600) (kk : ∀ S, ki_V (N + 1) S S → kw_At p l e s m below meth c D ad cA b i 852 S) : kw_At p l e s m below meth c D ad cA b i 224 M := by
  intro ls H locs hl hP hS
  obtain ⟨v, M1, S, hE1, hE2, hV2⟩ := kw_step (z := kz_BK_read) (y := kz_Model_read) (A := [.inl (xs (i + 1)), .inl (xs (i + 2)), .inl (xs (i + 3))]) hV (by simp) (fun R hR => ow_read hR hN _ _ _)
  refine lv_aload_n C.1.1 C.1.2.1 kw_d_224 rfl (lv_at hl 1 rfl) ?_
  refine kw_arg (j := 1) C (by decide) kw_d_225 kw_d_226 kw_d_227 kw_d_228 kw_d_229 hl (by omega) hS ?_
  refine kw_arg (j := 2) C (by decide) kw_d_230 kw_d_231 kw_d_232 kw_d_233 kw_d_234 hl (by omega) hS ?_
  refine kw_arg (j := 3) C (by decide) kw_d_235 kw_d_236 kw_d_237 kw_d_238 kw_d_239 hl (by omega) hS ?_
  refine kw_inv (z := kz_BK_read) (c0 := 0) (as := [xs (i + 1), xs (i + 2), xs (i + 3)]) (rest := []) C hE1 kj_BK_read (kb_all_in (List.mem_of_getElem? (i := 346) rfl) rfl) rfl rfl ⟨(Nat.le_of_ble_eq_true rfl), (Nat.le_of_ble_eq_true rfl)⟩ (Nat.le_of_ble_eq_true rfl) ⟨(Nat.le_of_ble_eq_true rfl), (Nat.le_of_ble_eq_true rfl)⟩ rfl kw_d_240 hl.1 hP hS (fun H locs hP hS => ?_)
  refine lv_aload_n C.1.1 C.1.2.1 kw_d_243 rfl (lv_at hl 2 rfl) ?_
  refine kw_arg (j := 1) C (by decide) kw_d_244 kw_d_245 kw_d_246 kw_d_247 kw_d_248 hl (by omega) hS ?_
  refine kw_arg (j := 2) C (by decide) kw_d_249 kw_d_250 kw_d_251 kw_d_252 kw_d_253 hl (by omega) hS ?_
  refine kw_arg (j := 3) C (by decide) kw_d_254 kw_d_255 kw_d_256 kw_d_257 kw_d_258 hl (by omega) hS ?_
  refine kw_inv (z := kz_Model_read) (c0 := 33) (as := [xs (i + 1), xs (i + 2), xs (i + 3)]) (rest := [.int v]) C hE2 kj_Model_read (kb_all_in (List.mem_of_getElem? (i := 648) rfl) rfl) rfl rfl ⟨(Nat.le_of_ble_eq_true rfl), (Nat.le_of_ble_eq_true rfl)⟩ (Nat.le_of_ble_eq_true rfl) ⟨(Nat.le_of_ble_eq_true rfl), (Nat.le_of_ble_eq_true rfl)⟩ rfl kw_d_259 hl.1 hP hS (fun H locs hP hS => ?_)
  exact lv_icmp_eq (tgt := 852) C.1.1 C.1.2.1 kw_d_262 (by decide) (fun _ => kk S hV2 ls H locs hl hP hS) (fun h => absurd rfl h)
set_option maxRecDepth 100000 in
theorem kw_c_length (C : kw_C p s m c #[Value.ref b] D ad cA b L xs) (hi : i + 5 ≤ L) (hV : ki_V N M M) (hN : N ≤ 600) (kk : ∀ S, ki_V (N + 1) S S → kw_At p l e s m below meth c D ad cA b i 852 S) : kw_At p l e s m below meth c D ad cA b i 267 M := by
  intro ls H locs hl hP hS
  obtain ⟨v, M1, S, hE1, hE2, hV2⟩ := kw_step (z := kz_BK_length) (y := kz_Model_length) (A := [.inl (xs (i + 1)), .inl (xs (i + 2))]) hV (by simp) (fun R hR => ow_length hR _ _)
  refine lv_aload_n C.1.1 C.1.2.1 kw_d_267 rfl (lv_at hl 1 rfl) ?_
  refine kw_arg (j := 1) C (by decide) kw_d_268 kw_d_269 kw_d_270 kw_d_271 kw_d_272 hl (by omega) hS ?_
  refine kw_arg (j := 2) C (by decide) kw_d_273 kw_d_274 kw_d_275 kw_d_276 kw_d_277 hl (by omega) hS ?_
  refine kw_inv (z := kz_BK_length) (c0 := 0) (as := [xs (i + 1), xs (i + 2)]) (rest := []) C hE1 kj_BK_length (kb_all_in (List.mem_of_getElem? (i := 358) rfl) rfl) rfl rfl ⟨(Nat.le_of_ble_eq_true rfl), (Nat.le_of_ble_eq_true rfl)⟩ (Nat.le_of_ble_eq_true rfl) ⟨(Nat.le_of_ble_eq_true rfl), (Nat.le_of_ble_eq_true rfl)⟩ rfl kw_d_278 hl.1 hP hS (fun H locs hP hS => ?_)
  refine lv_aload_n C.1.1 C.1.2.1 kw_d_281 rfl (lv_at hl 2 rfl) ?_
  refine kw_arg (j := 1) C (by decide) kw_d_282 kw_d_283 kw_d_284 kw_d_285 kw_d_286 hl (by omega) hS ?_
  refine kw_arg (j := 2) C (by decide) kw_d_287 kw_d_288 kw_d_289 kw_d_290 kw_d_291 hl (by omega) hS ?_
  refine kw_inv (z := kz_Model_length) (c0 := 33) (as := [xs (i + 1), xs (i + 2)]) (rest := [.int v]) C hE2 kj_Model_length (kb_all_in (List.mem_of_getElem? (i := 652) rfl) rfl) rfl rfl ⟨(Nat.le_of_ble_eq_true rfl), (Nat.le_of_ble_eq_true rfl)⟩ (Nat.le_of_ble_eq_true rfl) ⟨(Nat.le_of_ble_eq_true rfl), (Nat.le_of_ble_eq_true rfl)⟩ rfl kw_d_292 hl.1 hP hS (fun H locs hP hS => ?_)
  exact lv_icmp_eq (tgt := 852) C.1.1 C.1.2.1 kw_d_295 (by decide) (fun _ => kk S hV2 ls H locs hl hP hS) (fun h => absurd rfl h)
set_option maxRecDepth 100000 in
theorem kw_c_erase (C : kw_C p s m c #[Value.ref b] D ad cA b L xs) (hi : i + 5 ≤ L) (hV : ki_V N M M) (hN : N ≤ 600) (kk : ∀ S, ki_V (N + 1) S S → kw_At p l e s m below meth c D ad cA b i 852 S) : kw_At p l e s m below meth c D ad cA b i 300 M := by
  intro ls H locs hl hP hS
  obtain ⟨v, M1, S, hE1, hE2, hV2⟩ := kw_step (z := kz_BK_erase) (y := kz_Model_erase) (A := [.inl (xs (i + 1)), .inl (xs (i + 2))]) hV (by simp) (fun R hR => ow_erase hR _ _)
  refine lv_aload_n C.1.1 C.1.2.1 kw_d_300 rfl (lv_at hl 1 rfl) ?_
  refine kw_arg (j := 1) C (by decide) kw_d_301 kw_d_302 kw_d_303 kw_d_304 kw_d_305 hl (by omega) hS ?_
  refine kw_arg (j := 2) C (by decide) kw_d_306 kw_d_307 kw_d_308 kw_d_309 kw_d_310 hl (by omega) hS ?_
  refine kw_inv (z := kz_BK_erase) (c0 := 0) (as := [xs (i + 1), xs (i + 2)]) (rest := []) C hE1 kj_BK_erase (kb_all_in (List.mem_of_getElem? (i := 366) rfl) rfl) rfl rfl ⟨(Nat.le_of_ble_eq_true rfl), (Nat.le_of_ble_eq_true rfl)⟩ (Nat.le_of_ble_eq_true rfl) ⟨(Nat.le_of_ble_eq_true rfl), (Nat.le_of_ble_eq_true rfl)⟩ rfl kw_d_311 hl.1 hP hS (fun H locs hP hS => ?_)
  refine lv_aload_n C.1.1 C.1.2.1 kw_d_314 rfl (lv_at hl 2 rfl) ?_
  refine kw_arg (j := 1) C (by decide) kw_d_315 kw_d_316 kw_d_317 kw_d_318 kw_d_319 hl (by omega) hS ?_
  refine kw_arg (j := 2) C (by decide) kw_d_320 kw_d_321 kw_d_322 kw_d_323 kw_d_324 hl (by omega) hS ?_
  refine kw_inv (z := kz_Model_erase) (c0 := 33) (as := [xs (i + 1), xs (i + 2)]) (rest := [.int v]) C hE2 kj_Model_erase (kb_all_in (List.mem_of_getElem? (i := 656) rfl) rfl) rfl rfl ⟨(Nat.le_of_ble_eq_true rfl), (Nat.le_of_ble_eq_true rfl)⟩ (Nat.le_of_ble_eq_true rfl) ⟨(Nat.le_of_ble_eq_true rfl), (Nat.le_of_ble_eq_true rfl)⟩ rfl kw_d_325 hl.1 hP hS (fun H locs hP hS => ?_)
  exact lv_icmp_eq (tgt := 852) C.1.1 C.1.2.1 kw_d_328 (by decide) (fun _ => kk S hV2 ls H locs hl hP hS) (fun h => absurd rfl h)
set_option maxRecDepth 100000 in
theorem kw_c_sync (C : kw_C p s m c #[Value.ref b] D ad cA b L xs) (hi : i + 5 ≤ L) (hV : ki_V N M M) (hN : N ≤ 600) (kk : ∀ S, ki_V (N + 1) S S → kw_At p l e s m below meth c D ad cA b i 852 S) : kw_At p l e s m below meth c D ad cA b i 333 M := by
  intro ls H locs hl hP hS
  obtain ⟨v, M1, S, hE1, hE2, hV2⟩ := kw_step (z := kz_BK_sync) (y := kz_Model_sync) (A := [.inl (xs (i + 1))]) hV (by simp) (fun R hR => ow_sync hR _)
  refine lv_aload_n C.1.1 C.1.2.1 kw_d_333 rfl (lv_at hl 1 rfl) ?_
  refine kw_arg (j := 1) C (by decide) kw_d_334 kw_d_335 kw_d_336 kw_d_337 kw_d_338 hl (by omega) hS ?_
  refine kw_inv (z := kz_BK_sync) (c0 := 0) (as := [xs (i + 1)]) (rest := []) C hE1 kj_BK_sync (kb_all_in (List.mem_of_getElem? (i := 383) rfl) rfl) rfl rfl ⟨(Nat.le_of_ble_eq_true rfl), (Nat.le_of_ble_eq_true rfl)⟩ (Nat.le_of_ble_eq_true rfl) ⟨(Nat.le_of_ble_eq_true rfl), (Nat.le_of_ble_eq_true rfl)⟩ rfl kw_d_339 hl.1 hP hS (fun H locs hP hS => ?_)
  refine lv_aload_n C.1.1 C.1.2.1 kw_d_342 rfl (lv_at hl 2 rfl) ?_
  refine kw_arg (j := 1) C (by decide) kw_d_343 kw_d_344 kw_d_345 kw_d_346 kw_d_347 hl (by omega) hS ?_
  refine kw_inv (z := kz_Model_sync) (c0 := 33) (as := [xs (i + 1)]) (rest := [.int v]) C hE2 kj_Model_sync (kb_all_in (List.mem_of_getElem? (i := 660) rfl) rfl) rfl rfl ⟨(Nat.le_of_ble_eq_true rfl), (Nat.le_of_ble_eq_true rfl)⟩ (Nat.le_of_ble_eq_true rfl) ⟨(Nat.le_of_ble_eq_true rfl), (Nat.le_of_ble_eq_true rfl)⟩ rfl kw_d_348 hl.1 hP hS (fun H locs hP hS => ?_)
  exact lv_icmp_eq (tgt := 852) C.1.1 C.1.2.1 kw_d_351 (by decide) (fun _ => kk S hV2 ls H locs hl hP hS) (fun h => absurd rfl h)
set_option maxRecDepth 100000 in
theorem kw_c_squeeze (C : kw_C p s m c #[Value.ref b] D ad cA b L xs) (hi : i + 5 ≤ L) (hV : ki_V N M M) (hN : N ≤ 600) (kk : ∀ S, ki_V (N + 1) S S → kw_At p l e s m below meth c D ad cA b i 852 S) : kw_At p l e s m below meth c D ad cA b i 356 M := by
  intro ls H locs hl hP hS
  obtain ⟨v, M1, S, hE1, hE2, hV2⟩ := kw_step (z := kz_BK_squeeze) (y := kz_Model_squeeze) (A := [.inl (xs (i + 1))]) hV (by simp) (fun R hR => ow_squeeze hR _)
  refine lv_aload_n C.1.1 C.1.2.1 kw_d_356 rfl (lv_at hl 1 rfl) ?_
  refine kw_arg (j := 1) C (by decide) kw_d_357 kw_d_358 kw_d_359 kw_d_360 kw_d_361 hl (by omega) hS ?_
  refine kw_inv (z := kz_BK_squeeze) (c0 := 0) (as := [xs (i + 1)]) (rest := []) C hE1 kj_BK_squeeze (kb_all_in (List.mem_of_getElem? (i := 391) rfl) rfl) rfl rfl ⟨(Nat.le_of_ble_eq_true rfl), (Nat.le_of_ble_eq_true rfl)⟩ (Nat.le_of_ble_eq_true rfl) ⟨(Nat.le_of_ble_eq_true rfl), (Nat.le_of_ble_eq_true rfl)⟩ rfl kw_d_362 hl.1 hP hS (fun H locs hP hS => ?_)
  refine lv_aload_n C.1.1 C.1.2.1 kw_d_365 rfl (lv_at hl 2 rfl) ?_
  refine kw_arg (j := 1) C (by decide) kw_d_366 kw_d_367 kw_d_368 kw_d_369 kw_d_370 hl (by omega) hS ?_
  refine kw_inv (z := kz_Model_squeeze) (c0 := 33) (as := [xs (i + 1)]) (rest := [.int v]) C hE2 kj_Model_squeeze (kb_all_in (List.mem_of_getElem? (i := 664) rfl) rfl) rfl rfl ⟨(Nat.le_of_ble_eq_true rfl), (Nat.le_of_ble_eq_true rfl)⟩ (Nat.le_of_ble_eq_true rfl) ⟨(Nat.le_of_ble_eq_true rfl), (Nat.le_of_ble_eq_true rfl)⟩ rfl kw_d_371 hl.1 hP hS (fun H locs hP hS => ?_)
  exact lv_icmp_eq (tgt := 852) C.1.1 C.1.2.1 kw_d_374 (by decide) (fun _ => kk S hV2 ls H locs hl hP hS) (fun h => absurd rfl h)
set_option maxRecDepth 100000 in
theorem kw_c_bind (C : kw_C p s m c #[Value.ref b] D ad cA b L xs) (hi : i + 5 ≤ L) (hV : ki_V N M M) (hN : N ≤ 600) (kk : ∀ S, ki_V (N + 1) S S → kw_At p l e s m below meth c D ad cA b i 852 S) : kw_At p l e s m below meth c D ad cA b i 379 M := by
  intro ls H locs hl hP hS
  obtain ⟨v, M1, S, hE1, hE2, hV2⟩ := kw_step (z := kz_BK_bind) (y := kz_Model_bind) (A := [.inl (xs (i + 1)), .inl (nI (if xs (i + 2) = 0 then 0 else 1))]) hV (by simp) (fun R hR => ow_bind hR hN _ (by split <;> omega))
  refine lv_aload_n C.1.1 C.1.2.1 kw_d_379 rfl (lv_at hl 1 rfl) ?_
  refine kw_arg (j := 1) C (by decide) kw_d_380 kw_d_381 kw_d_382 kw_d_383 kw_d_384 hl (by omega) hS ?_
  refine kw_arg (j := 2) C (by decide) kw_d_385 kw_d_386 kw_d_387 kw_d_388 kw_d_389 hl (by omega) hS ?_
  refine kw_bool (t1 := 397) (t2 := 398) C kw_d_390 (by decide) kw_d_393 kw_d_394 (by decide) kw_d_397 (by decide) ?_
  refine kw_inv (z := kz_BK_bind) (c0 := 0) (as := [xs (i + 1), nI (if xs (i + 2) = 0 then 0 else 1)]) (rest := []) C hE1 kj_BK_bind (kb_all_in (List.mem_of_getElem? (i := 399) rfl) rfl) rfl rfl ⟨(Nat.le_of_ble_eq_true rfl), (Nat.le_of_ble_eq_true rfl)⟩ (Nat.le_of_ble_eq_true rfl) ⟨(Nat.le_of_ble_eq_true rfl), (Nat.le_of_ble_eq_true rfl)⟩ rfl kw_d_398 hl.1 hP hS (fun H locs hP hS => ?_)
  refine lv_aload_n C.1.1 C.1.2.1 kw_d_401 rfl (lv_at hl 2 rfl) ?_
  refine kw_arg (j := 1) C (by decide) kw_d_402 kw_d_403 kw_d_404 kw_d_405 kw_d_406 hl (by omega) hS ?_
  refine kw_arg (j := 2) C (by decide) kw_d_407 kw_d_408 kw_d_409 kw_d_410 kw_d_411 hl (by omega) hS ?_
  refine kw_bool (t1 := 419) (t2 := 420) C kw_d_412 (by decide) kw_d_415 kw_d_416 (by decide) kw_d_419 (by decide) ?_
  refine kw_inv (z := kz_Model_bind) (c0 := 33) (as := [xs (i + 1), nI (if xs (i + 2) = 0 then 0 else 1)]) (rest := [.int v]) C hE2 kj_Model_bind (kb_all_in (List.mem_of_getElem? (i := 668) rfl) rfl) rfl rfl ⟨(Nat.le_of_ble_eq_true rfl), (Nat.le_of_ble_eq_true rfl)⟩ (Nat.le_of_ble_eq_true rfl) ⟨(Nat.le_of_ble_eq_true rfl), (Nat.le_of_ble_eq_true rfl)⟩ rfl kw_d_420 hl.1 hP hS (fun H locs hP hS => ?_)
  exact lv_icmp_eq (tgt := 852) C.1.1 C.1.2.1 kw_d_423 (by decide) (fun _ => kk S hV2 ls H locs hl hP hS) (fun h => absurd rfl h)
set_option maxRecDepth 100000 in
theorem kw_c_put (C : kw_C p s m c #[Value.ref b] D ad cA b L xs) (hi : i + 5 ≤ L) (hV : ki_V N M M) (hN : N ≤ 600) (kk : ∀ S, ki_V (N + 1) S S → kw_At p l e s m below meth c D ad cA b i 852 S) : kw_At p l e s m below meth c D ad cA b i 428 M := by
  intro ls H locs hl hP hS
  obtain ⟨v, M1, S, hE1, hE2, hV2⟩ := kw_step (z := kz_BK_put) (y := kz_Model_put) (A := [.inl (xs (i + 1)), .inl (xs (i + 2)), .inl (xs (i + 3)), .inl (xs (i + 4))]) hV (by simp) (fun R hR => ow_put hR _ _ _ _)
  refine lv_aload_n C.1.1 C.1.2.1 kw_d_428 rfl (lv_at hl 1 rfl) ?_
  refine kw_arg (j := 1) C (by decide) kw_d_429 kw_d_430 kw_d_431 kw_d_432 kw_d_433 hl (by omega) hS ?_
  refine kw_arg (j := 2) C (by decide) kw_d_434 kw_d_435 kw_d_436 kw_d_437 kw_d_438 hl (by omega) hS ?_
  refine kw_arg (j := 3) C (by decide) kw_d_439 kw_d_440 kw_d_441 kw_d_442 kw_d_443 hl (by omega) hS ?_
  refine kw_arg (j := 4) C (by decide) kw_d_444 kw_d_445 kw_d_446 kw_d_447 kw_d_448 hl (by omega) hS ?_
  refine kw_inv (z := kz_BK_put) (c0 := 0) (as := [xs (i + 1), xs (i + 2), xs (i + 3), xs (i + 4)]) (rest := []) C hE1 kj_BK_put (kb_all_in (List.mem_of_getElem? (i := 420) rfl) rfl) rfl rfl ⟨(Nat.le_of_ble_eq_true rfl), (Nat.le_of_ble_eq_true rfl)⟩ (Nat.le_of_ble_eq_true rfl) ⟨(Nat.le_of_ble_eq_true rfl), (Nat.le_of_ble_eq_true rfl)⟩ rfl kw_d_449 hl.1 hP hS (fun H locs hP hS => ?_)
  refine lv_aload_n C.1.1 C.1.2.1 kw_d_452 rfl (lv_at hl 2 rfl) ?_
  refine kw_arg (j := 1) C (by decide) kw_d_453 kw_d_454 kw_d_455 kw_d_456 kw_d_457 hl (by omega) hS ?_
  refine kw_arg (j := 2) C (by decide) kw_d_458 kw_d_459 kw_d_460 kw_d_461 kw_d_462 hl (by omega) hS ?_
  refine kw_arg (j := 3) C (by decide) kw_d_463 kw_d_464 kw_d_465 kw_d_466 kw_d_467 hl (by omega) hS ?_
  refine kw_arg (j := 4) C (by decide) kw_d_468 kw_d_469 kw_d_470 kw_d_471 kw_d_472 hl (by omega) hS ?_
  refine kw_inv (z := kz_Model_put) (c0 := 33) (as := [xs (i + 1), xs (i + 2), xs (i + 3), xs (i + 4)]) (rest := [.int v]) C hE2 kj_Model_put (kb_all_in (List.mem_of_getElem? (i := 672) rfl) rfl) rfl rfl ⟨(Nat.le_of_ble_eq_true rfl), (Nat.le_of_ble_eq_true rfl)⟩ (Nat.le_of_ble_eq_true rfl) ⟨(Nat.le_of_ble_eq_true rfl), (Nat.le_of_ble_eq_true rfl)⟩ rfl kw_d_473 hl.1 hP hS (fun H locs hP hS => ?_)
  exact lv_icmp_eq (tgt := 852) C.1.1 C.1.2.1 kw_d_476 (by decide) (fun _ => kk S hV2 ls H locs hl hP hS) (fun h => absurd rfl h)
set_option maxRecDepth 100000 in
theorem kw_c_get (C : kw_C p s m c #[Value.ref b] D ad cA b L xs) (hi : i + 5 ≤ L) (hV : ki_V N M M) (hN : N ≤ 600) (kk : ∀ S, ki_V (N + 1) S S → kw_At p l e s m below meth c D ad cA b i 852 S) : kw_At p l e s m below meth c D ad cA b i 481 M := by
  intro ls H locs hl hP hS
  obtain ⟨v, M1, S, hE1, hE2, hV2⟩ := kw_step (z := kz_BK_get) (y := kz_Model_get) (A := [.inl (xs (i + 1)), .inl (xs (i + 2)), .inl (xs (i + 3))]) hV (by simp) (fun R hR => ow_get hR _ _ _)
  refine lv_aload_n C.1.1 C.1.2.1 kw_d_481 rfl (lv_at hl 1 rfl) ?_
  refine kw_arg (j := 1) C (by decide) kw_d_482 kw_d_483 kw_d_484 kw_d_485 kw_d_486 hl (by omega) hS ?_
  refine kw_arg (j := 2) C (by decide) kw_d_487 kw_d_488 kw_d_489 kw_d_490 kw_d_491 hl (by omega) hS ?_
  refine kw_arg (j := 3) C (by decide) kw_d_492 kw_d_493 kw_d_494 kw_d_495 kw_d_496 hl (by omega) hS ?_
  refine kw_inv (z := kz_BK_get) (c0 := 0) (as := [xs (i + 1), xs (i + 2), xs (i + 3)]) (rest := []) C hE1 kj_BK_get (kb_all_in (List.mem_of_getElem? (i := 442) rfl) rfl) rfl rfl ⟨(Nat.le_of_ble_eq_true rfl), (Nat.le_of_ble_eq_true rfl)⟩ (Nat.le_of_ble_eq_true rfl) ⟨(Nat.le_of_ble_eq_true rfl), (Nat.le_of_ble_eq_true rfl)⟩ rfl kw_d_497 hl.1 hP hS (fun H locs hP hS => ?_)
  refine lv_aload_n C.1.1 C.1.2.1 kw_d_500 rfl (lv_at hl 2 rfl) ?_
  refine kw_arg (j := 1) C (by decide) kw_d_501 kw_d_502 kw_d_503 kw_d_504 kw_d_505 hl (by omega) hS ?_
  refine kw_arg (j := 2) C (by decide) kw_d_506 kw_d_507 kw_d_508 kw_d_509 kw_d_510 hl (by omega) hS ?_
  refine kw_arg (j := 3) C (by decide) kw_d_511 kw_d_512 kw_d_513 kw_d_514 kw_d_515 hl (by omega) hS ?_
  refine kw_inv (z := kz_Model_get) (c0 := 33) (as := [xs (i + 1), xs (i + 2), xs (i + 3)]) (rest := [.int v]) C hE2 kj_Model_get (kb_all_in (List.mem_of_getElem? (i := 680) rfl) rfl) rfl rfl ⟨(Nat.le_of_ble_eq_true rfl), (Nat.le_of_ble_eq_true rfl)⟩ (Nat.le_of_ble_eq_true rfl) ⟨(Nat.le_of_ble_eq_true rfl), (Nat.le_of_ble_eq_true rfl)⟩ rfl kw_d_516 hl.1 hP hS (fun H locs hP hS => ?_)
  exact lv_icmp_eq (tgt := 852) C.1.1 C.1.2.1 kw_d_519 (by decide) (fun _ => kk S hV2 ls H locs hl hP hS) (fun h => absurd rfl h)
set_option maxRecDepth 100000 in
theorem kw_c_copy (C : kw_C p s m c #[Value.ref b] D ad cA b L xs) (hi : i + 5 ≤ L) (hV : ki_V N M M) (hN : N ≤ 600) (kk : ∀ S, ki_V (N + 1) S S → kw_At p l e s m below meth c D ad cA b i 852 S) : kw_At p l e s m below meth c D ad cA b i 524 M := by
  intro ls H locs hl hP hS
  obtain ⟨v, M1, S, hE1, hE2, hV2⟩ := kw_step (z := kz_BK_copy) (y := kz_Model_copy) (A := [.inl (xs (i + 1)), .inl (xs (i + 2)), .inl (xs (i + 3))]) hV (by simp) (fun R hR => ow_copy hR _ _ _)
  refine lv_aload_n C.1.1 C.1.2.1 kw_d_524 rfl (lv_at hl 1 rfl) ?_
  refine kw_arg (j := 1) C (by decide) kw_d_525 kw_d_526 kw_d_527 kw_d_528 kw_d_529 hl (by omega) hS ?_
  refine kw_arg (j := 2) C (by decide) kw_d_530 kw_d_531 kw_d_532 kw_d_533 kw_d_534 hl (by omega) hS ?_
  refine kw_arg (j := 3) C (by decide) kw_d_535 kw_d_536 kw_d_537 kw_d_538 kw_d_539 hl (by omega) hS ?_
  refine kw_inv (z := kz_BK_copy) (c0 := 0) (as := [xs (i + 1), xs (i + 2), xs (i + 3)]) (rest := []) C hE1 kj_BK_copy (kb_all_in (List.mem_of_getElem? (i := 451) rfl) rfl) rfl rfl ⟨(Nat.le_of_ble_eq_true rfl), (Nat.le_of_ble_eq_true rfl)⟩ (Nat.le_of_ble_eq_true rfl) ⟨(Nat.le_of_ble_eq_true rfl), (Nat.le_of_ble_eq_true rfl)⟩ rfl kw_d_540 hl.1 hP hS (fun H locs hP hS => ?_)
  refine lv_aload_n C.1.1 C.1.2.1 kw_d_543 rfl (lv_at hl 2 rfl) ?_
  refine kw_arg (j := 1) C (by decide) kw_d_544 kw_d_545 kw_d_546 kw_d_547 kw_d_548 hl (by omega) hS ?_
  refine kw_arg (j := 2) C (by decide) kw_d_549 kw_d_550 kw_d_551 kw_d_552 kw_d_553 hl (by omega) hS ?_
  refine kw_arg (j := 3) C (by decide) kw_d_554 kw_d_555 kw_d_556 kw_d_557 kw_d_558 hl (by omega) hS ?_
  refine kw_inv (z := kz_Model_copy) (c0 := 33) (as := [xs (i + 1), xs (i + 2), xs (i + 3)]) (rest := [.int v]) C hE2 kj_Model_copy (kb_all_in (List.mem_of_getElem? (i := 684) rfl) rfl) rfl rfl ⟨(Nat.le_of_ble_eq_true rfl), (Nat.le_of_ble_eq_true rfl)⟩ (Nat.le_of_ble_eq_true rfl) ⟨(Nat.le_of_ble_eq_true rfl), (Nat.le_of_ble_eq_true rfl)⟩ rfl kw_d_559 hl.1 hP hS (fun H locs hP hS => ?_)
  exact lv_icmp_eq (tgt := 852) C.1.1 C.1.2.1 kw_d_562 (by decide) (fun _ => kk S hV2 ls H locs hl hP hS) (fun h => absurd rfl h)
set_option maxRecDepth 100000 in
theorem kw_c_release (C : kw_C p s m c #[Value.ref b] D ad cA b L xs) (hi : i + 5 ≤ L) (hV : ki_V N M M) (hN : N ≤ 600) (kk : ∀ S, ki_V (N + 1) S S → kw_At p l e s m below meth c D ad cA b i 852 S) : kw_At p l e s m below meth c D ad cA b i 567 M := by
  intro ls H locs hl hP hS
  obtain ⟨v, M1, S, hE1, hE2, hV2⟩ := kw_step (z := kz_BK_release) (y := kz_Model_release) (A := [.inl (xs (i + 1)), .inl (xs (i + 2))]) hV (by simp) (fun R hR => ow_release hR _ _)
  refine lv_aload_n C.1.1 C.1.2.1 kw_d_567 rfl (lv_at hl 1 rfl) ?_
  refine kw_arg (j := 1) C (by decide) kw_d_568 kw_d_569 kw_d_570 kw_d_571 kw_d_572 hl (by omega) hS ?_
  refine kw_arg (j := 2) C (by decide) kw_d_573 kw_d_574 kw_d_575 kw_d_576 kw_d_577 hl (by omega) hS ?_
  refine kw_inv (z := kz_BK_release) (c0 := 0) (as := [xs (i + 1), xs (i + 2)]) (rest := []) C hE1 kj_BK_release (kb_all_in (List.mem_of_getElem? (i := 460) rfl) rfl) rfl rfl ⟨(Nat.le_of_ble_eq_true rfl), (Nat.le_of_ble_eq_true rfl)⟩ (Nat.le_of_ble_eq_true rfl) ⟨(Nat.le_of_ble_eq_true rfl), (Nat.le_of_ble_eq_true rfl)⟩ rfl kw_d_578 hl.1 hP hS (fun H locs hP hS => ?_)
  refine lv_aload_n C.1.1 C.1.2.1 kw_d_581 rfl (lv_at hl 2 rfl) ?_
  refine kw_arg (j := 1) C (by decide) kw_d_582 kw_d_583 kw_d_584 kw_d_585 kw_d_586 hl (by omega) hS ?_
  refine kw_arg (j := 2) C (by decide) kw_d_587 kw_d_588 kw_d_589 kw_d_590 kw_d_591 hl (by omega) hS ?_
  refine kw_inv (z := kz_Model_release) (c0 := 33) (as := [xs (i + 1), xs (i + 2)]) (rest := [.int v]) C hE2 kj_Model_release (kb_all_in (List.mem_of_getElem? (i := 688) rfl) rfl) rfl rfl ⟨(Nat.le_of_ble_eq_true rfl), (Nat.le_of_ble_eq_true rfl)⟩ (Nat.le_of_ble_eq_true rfl) ⟨(Nat.le_of_ble_eq_true rfl), (Nat.le_of_ble_eq_true rfl)⟩ rfl kw_d_592 hl.1 hP hS (fun H locs hP hS => ?_)
  exact lv_icmp_eq (tgt := 852) C.1.1 C.1.2.1 kw_d_595 (by decide) (fun _ => kk S hV2 ls H locs hl hP hS) (fun h => absurd rfl h)
set_option maxRecDepth 100000 in
theorem kw_c_ask (C : kw_C p s m c #[Value.ref b] D ad cA b L xs) (hi : i + 5 ≤ L) (hV : ki_V N M M) (hN : N ≤ 600) (kk : ∀ S, ki_V (N + 1) S S → kw_At p l e s m below meth c D ad cA b i 852 S) : kw_At p l e s m below meth c D ad cA b i 600 M := by
  intro ls H locs hl hP hS
  obtain ⟨v, M1, S, hE1, hE2, hV2⟩ := kw_step (z := kz_BK_ask) (y := kz_Model_ask) (A := [.inl (xs (i + 1)), .inl (xs (i + 2))]) hV (by simp) (fun R hR => ow_ask hR _ _)
  refine lv_aload_n C.1.1 C.1.2.1 kw_d_600 rfl (lv_at hl 1 rfl) ?_
  refine kw_arg (j := 1) C (by decide) kw_d_601 kw_d_602 kw_d_603 kw_d_604 kw_d_605 hl (by omega) hS ?_
  refine kw_arg (j := 2) C (by decide) kw_d_606 kw_d_607 kw_d_608 kw_d_609 kw_d_610 hl (by omega) hS ?_
  refine kw_inv (z := kz_BK_ask) (c0 := 0) (as := [xs (i + 1), xs (i + 2)]) (rest := []) C hE1 kj_BK_ask (kb_all_in (List.mem_of_getElem? (i := 468) rfl) rfl) rfl rfl ⟨(Nat.le_of_ble_eq_true rfl), (Nat.le_of_ble_eq_true rfl)⟩ (Nat.le_of_ble_eq_true rfl) ⟨(Nat.le_of_ble_eq_true rfl), (Nat.le_of_ble_eq_true rfl)⟩ rfl kw_d_611 hl.1 hP hS (fun H locs hP hS => ?_)
  refine lv_aload_n C.1.1 C.1.2.1 kw_d_614 rfl (lv_at hl 2 rfl) ?_
  refine kw_arg (j := 1) C (by decide) kw_d_615 kw_d_616 kw_d_617 kw_d_618 kw_d_619 hl (by omega) hS ?_
  refine kw_arg (j := 2) C (by decide) kw_d_620 kw_d_621 kw_d_622 kw_d_623 kw_d_624 hl (by omega) hS ?_
  refine kw_inv (z := kz_Model_ask) (c0 := 33) (as := [xs (i + 1), xs (i + 2)]) (rest := [.int v]) C hE2 kj_Model_ask (kb_all_in (List.mem_of_getElem? (i := 692) rfl) rfl) rfl rfl ⟨(Nat.le_of_ble_eq_true rfl), (Nat.le_of_ble_eq_true rfl)⟩ (Nat.le_of_ble_eq_true rfl) ⟨(Nat.le_of_ble_eq_true rfl), (Nat.le_of_ble_eq_true rfl)⟩ rfl kw_d_625 hl.1 hP hS (fun H locs hP hS => ?_)
  exact lv_icmp_eq (tgt := 852) C.1.1 C.1.2.1 kw_d_628 (by decide) (fun _ => kk S hV2 ls H locs hl hP hS) (fun h => absurd rfl h)
set_option maxRecDepth 100000 in
theorem kw_c_state (C : kw_C p s m c #[Value.ref b] D ad cA b L xs) (hi : i + 5 ≤ L) (hV : ki_V N M M) (hN : N ≤ 600) (kk : ∀ S, ki_V (N + 1) S S → kw_At p l e s m below meth c D ad cA b i 852 S) : kw_At p l e s m below meth c D ad cA b i 633 M := by
  intro ls H locs hl hP hS
  obtain ⟨v, M1, S, hE1, hE2, hV2⟩ := kw_step (z := kz_BK_state) (y := kz_Model_state) (A := [.inl (xs (i + 1)), .inl (xs (i + 2))]) hV (by simp) (fun R hR => ow_state hR _ _)
  refine lv_aload_n C.1.1 C.1.2.1 kw_d_633 rfl (lv_at hl 1 rfl) ?_
  refine kw_arg (j := 1) C (by decide) kw_d_634 kw_d_635 kw_d_636 kw_d_637 kw_d_638 hl (by omega) hS ?_
  refine kw_arg (j := 2) C (by decide) kw_d_639 kw_d_640 kw_d_641 kw_d_642 kw_d_643 hl (by omega) hS ?_
  refine kw_inv (z := kz_BK_state) (c0 := 0) (as := [xs (i + 1), xs (i + 2)]) (rest := []) C hE1 kj_BK_state (kb_all_in (List.mem_of_getElem? (i := 476) rfl) rfl) rfl rfl ⟨(Nat.le_of_ble_eq_true rfl), (Nat.le_of_ble_eq_true rfl)⟩ (Nat.le_of_ble_eq_true rfl) ⟨(Nat.le_of_ble_eq_true rfl), (Nat.le_of_ble_eq_true rfl)⟩ rfl kw_d_644 hl.1 hP hS (fun H locs hP hS => ?_)
  refine lv_aload_n C.1.1 C.1.2.1 kw_d_647 rfl (lv_at hl 2 rfl) ?_
  refine kw_arg (j := 1) C (by decide) kw_d_648 kw_d_649 kw_d_650 kw_d_651 kw_d_652 hl (by omega) hS ?_
  refine kw_arg (j := 2) C (by decide) kw_d_653 kw_d_654 kw_d_655 kw_d_656 kw_d_657 hl (by omega) hS ?_
  refine kw_inv (z := kz_Model_state) (c0 := 33) (as := [xs (i + 1), xs (i + 2)]) (rest := [.int v]) C hE2 kj_Model_state (kb_all_in (List.mem_of_getElem? (i := 696) rfl) rfl) rfl rfl ⟨(Nat.le_of_ble_eq_true rfl), (Nat.le_of_ble_eq_true rfl)⟩ (Nat.le_of_ble_eq_true rfl) ⟨(Nat.le_of_ble_eq_true rfl), (Nat.le_of_ble_eq_true rfl)⟩ rfl kw_d_658 hl.1 hP hS (fun H locs hP hS => ?_)
  exact lv_icmp_eq (tgt := 852) C.1.1 C.1.2.1 kw_d_661 (by decide) (fun _ => kk S hV2 ls H locs hl hP hS) (fun h => absurd rfl h)
set_option maxRecDepth 100000 in
theorem kw_c_pass (C : kw_C p s m c #[Value.ref b] D ad cA b L xs) (hi : i + 5 ≤ L) (hV : ki_V N M M) (hN : N ≤ 600) (kk : ∀ S, ki_V (N + 1) S S → kw_At p l e s m below meth c D ad cA b i 852 S) : kw_At p l e s m below meth c D ad cA b i 666 M := by
  intro ls H locs hl hP hS
  obtain ⟨v, M1, S, hE1, hE2, hV2⟩ := kw_step (z := kz_BK_pass) (y := kz_Model_pass) (A := [.inl (xs (i + 1))]) hV (by simp) (fun R hR => ow_pass hR hN _)
  refine lv_aload_n C.1.1 C.1.2.1 kw_d_666 rfl (lv_at hl 1 rfl) ?_
  refine kw_arg (j := 1) C (by decide) kw_d_667 kw_d_668 kw_d_669 kw_d_670 kw_d_671 hl (by omega) hS ?_
  refine kw_inv (z := kz_BK_pass) (c0 := 0) (as := [xs (i + 1)]) (rest := []) C hE1 kj_BK_pass (kb_all_in (List.mem_of_getElem? (i := 481) rfl) rfl) rfl rfl ⟨(Nat.le_of_ble_eq_true rfl), (Nat.le_of_ble_eq_true rfl)⟩ (Nat.le_of_ble_eq_true rfl) ⟨(Nat.le_of_ble_eq_true rfl), (Nat.le_of_ble_eq_true rfl)⟩ rfl kw_d_672 hl.1 hP hS (fun H locs hP hS => ?_)
  refine lv_aload_n C.1.1 C.1.2.1 kw_d_675 rfl (lv_at hl 2 rfl) ?_
  refine kw_arg (j := 1) C (by decide) kw_d_676 kw_d_677 kw_d_678 kw_d_679 kw_d_680 hl (by omega) hS ?_
  refine kw_inv (z := kz_Model_pass) (c0 := 33) (as := [xs (i + 1)]) (rest := [.int v]) C hE2 kj_Model_pass (kb_all_in (List.mem_of_getElem? (i := 700) rfl) rfl) rfl rfl ⟨(Nat.le_of_ble_eq_true rfl), (Nat.le_of_ble_eq_true rfl)⟩ (Nat.le_of_ble_eq_true rfl) ⟨(Nat.le_of_ble_eq_true rfl), (Nat.le_of_ble_eq_true rfl)⟩ rfl kw_d_681 hl.1 hP hS (fun H locs hP hS => ?_)
  exact lv_icmp_eq (tgt := 852) C.1.1 C.1.2.1 kw_d_684 (by decide) (fun _ => kk S hV2 ls H locs hl hP hS) (fun h => absurd rfl h)
set_option maxRecDepth 100000 in
theorem kw_c_time (C : kw_C p s m c #[Value.ref b] D ad cA b L xs) (hi : i + 5 ≤ L) (hV : ki_V N M M) (hN : N ≤ 600) (kk : ∀ S, ki_V (N + 1) S S → kw_At p l e s m below meth c D ad cA b i 852 S) : kw_At p l e s m below meth c D ad cA b i 689 M := by
  intro ls H locs hl hP hS
  obtain ⟨v, M1, S, hE1, hE2, hV2⟩ := kw_step (z := kz_BK_time) (y := kz_Model_time) (A := []) hV (by simp) (fun R hR => ow_time hR)
  refine lv_aload_n C.1.1 C.1.2.1 kw_d_689 rfl (lv_at hl 1 rfl) ?_
  refine kw_inv (z := kz_BK_time) (c0 := 0) (as := []) (rest := []) C hE1 kj_BK_time (kb_all_in (List.mem_of_getElem? (i := 486) rfl) rfl) rfl rfl ⟨(Nat.le_of_ble_eq_true rfl), (Nat.le_of_ble_eq_true rfl)⟩ (Nat.le_of_ble_eq_true rfl) ⟨(Nat.le_of_ble_eq_true rfl), (Nat.le_of_ble_eq_true rfl)⟩ rfl kw_d_690 hl.1 hP hS (fun H locs hP hS => ?_)
  refine lv_aload_n C.1.1 C.1.2.1 kw_d_693 rfl (lv_at hl 2 rfl) ?_
  refine kw_inv (z := kz_Model_time) (c0 := 33) (as := []) (rest := [.int v]) C hE2 kj_Model_time (kb_all_in (List.mem_of_getElem? (i := 704) rfl) rfl) rfl rfl ⟨(Nat.le_of_ble_eq_true rfl), (Nat.le_of_ble_eq_true rfl)⟩ (Nat.le_of_ble_eq_true rfl) ⟨(Nat.le_of_ble_eq_true rfl), (Nat.le_of_ble_eq_true rfl)⟩ rfl kw_d_694 hl.1 hP hS (fun H locs hP hS => ?_)
  exact lv_icmp_eq (tgt := 852) C.1.1 C.1.2.1 kw_d_697 (by decide) (fun _ => kk S hV2 ls H locs hl hP hS) (fun h => absurd rfl h)
set_option maxRecDepth 100000 in
theorem kw_c_free (C : kw_C p s m c #[Value.ref b] D ad cA b L xs) (hi : i + 5 ≤ L) (hV : ki_V N M M) (hN : N ≤ 600) (kk : ∀ S, ki_V (N + 1) S S → kw_At p l e s m below meth c D ad cA b i 852 S) : kw_At p l e s m below meth c D ad cA b i 702 M := by
  intro ls H locs hl hP hS
  obtain ⟨v, M1, S, hE1, hE2, hV2⟩ := kw_step (z := kz_BK_free) (y := kz_Model_free) (A := [.inl (nI (if xs (i + 1) = 0 then 0 else 1))]) hV (by simp) (fun R hR => ow_free hR (by split <;> omega))
  refine lv_aload_n C.1.1 C.1.2.1 kw_d_702 rfl (lv_at hl 1 rfl) ?_
  refine kw_arg (j := 1) C (by decide) kw_d_703 kw_d_704 kw_d_705 kw_d_706 kw_d_707 hl (by omega) hS ?_
  refine kw_bool (t1 := 715) (t2 := 716) C kw_d_708 (by decide) kw_d_711 kw_d_712 (by decide) kw_d_715 (by decide) ?_
  refine kw_inv (z := kz_BK_free) (c0 := 0) (as := [nI (if xs (i + 1) = 0 then 0 else 1)]) (rest := []) C hE1 kj_BK_free (kb_all_in (List.mem_of_getElem? (i := 490) rfl) rfl) rfl rfl ⟨(Nat.le_of_ble_eq_true rfl), (Nat.le_of_ble_eq_true rfl)⟩ (Nat.le_of_ble_eq_true rfl) ⟨(Nat.le_of_ble_eq_true rfl), (Nat.le_of_ble_eq_true rfl)⟩ rfl kw_d_716 hl.1 hP hS (fun H locs hP hS => ?_)
  refine lv_aload_n C.1.1 C.1.2.1 kw_d_719 rfl (lv_at hl 2 rfl) ?_
  refine kw_arg (j := 1) C (by decide) kw_d_720 kw_d_721 kw_d_722 kw_d_723 kw_d_724 hl (by omega) hS ?_
  refine kw_bool (t1 := 732) (t2 := 733) C kw_d_725 (by decide) kw_d_728 kw_d_729 (by decide) kw_d_732 (by decide) ?_
  refine kw_inv (z := kz_Model_free) (c0 := 33) (as := [nI (if xs (i + 1) = 0 then 0 else 1)]) (rest := [.int v]) C hE2 kj_Model_free (kb_all_in (List.mem_of_getElem? (i := 564) rfl) rfl) rfl rfl ⟨(Nat.le_of_ble_eq_true rfl), (Nat.le_of_ble_eq_true rfl)⟩ (Nat.le_of_ble_eq_true rfl) ⟨(Nat.le_of_ble_eq_true rfl), (Nat.le_of_ble_eq_true rfl)⟩ rfl kw_d_733 hl.1 hP hS (fun H locs hP hS => ?_)
  exact lv_icmp_eq (tgt := 852) C.1.1 C.1.2.1 kw_d_736 (by decide) (fun _ => kk S hV2 ls H locs hl hP hS) (fun h => absurd rfl h)
set_option maxRecDepth 100000 in
theorem kw_c_held (C : kw_C p s m c #[Value.ref b] D ad cA b L xs) (hi : i + 5 ≤ L) (hV : ki_V N M M) (hN : N ≤ 600) (kk : ∀ S, ki_V (N + 1) S S → kw_At p l e s m below meth c D ad cA b i 852 S) : kw_At p l e s m below meth c D ad cA b i 741 M := by
  intro ls H locs hl hP hS
  obtain ⟨v, M1, S, hE1, hE2, hV2⟩ := kw_step (z := kz_BK_held) (y := kz_Model_held) (A := [.inl (xs (i + 1)), .inl (nI (if xs (i + 2) = 0 then 0 else 1))]) hV (by simp) (fun R hR => ow_held hR _ (by split <;> omega))
  refine lv_aload_n C.1.1 C.1.2.1 kw_d_741 rfl (lv_at hl 1 rfl) ?_
  refine kw_arg (j := 1) C (by decide) kw_d_742 kw_d_743 kw_d_744 kw_d_745 kw_d_746 hl (by omega) hS ?_
  refine kw_arg (j := 2) C (by decide) kw_d_747 kw_d_748 kw_d_749 kw_d_750 kw_d_751 hl (by omega) hS ?_
  refine kw_bool (t1 := 759) (t2 := 760) C kw_d_752 (by decide) kw_d_755 kw_d_756 (by decide) kw_d_759 (by decide) ?_
  refine kw_inv (z := kz_BK_held) (c0 := 0) (as := [xs (i + 1), nI (if xs (i + 2) = 0 then 0 else 1)]) (rest := []) C hE1 kj_BK_held (kb_all_in (List.mem_of_getElem? (i := 499) rfl) rfl) rfl rfl ⟨(Nat.le_of_ble_eq_true rfl), (Nat.le_of_ble_eq_true rfl)⟩ (Nat.le_of_ble_eq_true rfl) ⟨(Nat.le_of_ble_eq_true rfl), (Nat.le_of_ble_eq_true rfl)⟩ rfl kw_d_760 hl.1 hP hS (fun H locs hP hS => ?_)
  refine lv_aload_n C.1.1 C.1.2.1 kw_d_763 rfl (lv_at hl 2 rfl) ?_
  refine kw_arg (j := 1) C (by decide) kw_d_764 kw_d_765 kw_d_766 kw_d_767 kw_d_768 hl (by omega) hS ?_
  refine kw_arg (j := 2) C (by decide) kw_d_769 kw_d_770 kw_d_771 kw_d_772 kw_d_773 hl (by omega) hS ?_
  refine kw_bool (t1 := 781) (t2 := 782) C kw_d_774 (by decide) kw_d_777 kw_d_778 (by decide) kw_d_781 (by decide) ?_
  refine kw_inv (z := kz_Model_held) (c0 := 33) (as := [xs (i + 1), nI (if xs (i + 2) = 0 then 0 else 1)]) (rest := [.int v]) C hE2 kj_Model_held (kb_all_in (List.mem_of_getElem? (i := 580) rfl) rfl) rfl rfl ⟨(Nat.le_of_ble_eq_true rfl), (Nat.le_of_ble_eq_true rfl)⟩ (Nat.le_of_ble_eq_true rfl) ⟨(Nat.le_of_ble_eq_true rfl), (Nat.le_of_ble_eq_true rfl)⟩ rfl kw_d_782 hl.1 hP hS (fun H locs hP hS => ?_)
  exact lv_icmp_eq (tgt := 852) C.1.1 C.1.2.1 kw_d_785 (by decide) (fun _ => kk S hV2 ls H locs hl hP hS) (fun h => absurd rfl h)
set_option maxRecDepth 100000 in
theorem kw_c_losses (C : kw_C p s m c #[Value.ref b] D ad cA b L xs) (hi : i + 5 ≤ L) (hV : ki_V N M M) (hN : N ≤ 600) (kk : ∀ S, ki_V (N + 1) S S → kw_At p l e s m below meth c D ad cA b i 852 S) : kw_At p l e s m below meth c D ad cA b i 790 M := by
  intro ls H locs hl hP hS
  obtain ⟨v, M1, S, hE1, hE2, hV2⟩ := kw_step (z := kz_BK_losses) (y := kz_Model_losses) (A := [.inl (xs (i + 1))]) hV (by simp) (fun R hR => ow_losses hR _)
  refine lv_aload_n C.1.1 C.1.2.1 kw_d_790 rfl (lv_at hl 1 rfl) ?_
  refine kw_arg (j := 1) C (by decide) kw_d_791 kw_d_792 kw_d_793 kw_d_794 kw_d_795 hl (by omega) hS ?_
  refine kw_inv (z := kz_BK_losses) (c0 := 0) (as := [xs (i + 1)]) (rest := []) C hE1 kj_BK_losses (kb_all_in (List.mem_of_getElem? (i := 507) rfl) rfl) rfl rfl ⟨(Nat.le_of_ble_eq_true rfl), (Nat.le_of_ble_eq_true rfl)⟩ (Nat.le_of_ble_eq_true rfl) ⟨(Nat.le_of_ble_eq_true rfl), (Nat.le_of_ble_eq_true rfl)⟩ rfl kw_d_796 hl.1 hP hS (fun H locs hP hS => ?_)
  refine lv_aload_n C.1.1 C.1.2.1 kw_d_799 rfl (lv_at hl 2 rfl) ?_
  refine kw_arg (j := 1) C (by decide) kw_d_800 kw_d_801 kw_d_802 kw_d_803 kw_d_804 hl (by omega) hS ?_
  refine kw_inv (z := kz_Model_losses) (c0 := 33) (as := [xs (i + 1)]) (rest := [.int v]) C hE2 kj_Model_losses (kb_all_in (List.mem_of_getElem? (i := 708) rfl) rfl) rfl rfl ⟨(Nat.le_of_ble_eq_true rfl), (Nat.le_of_ble_eq_true rfl)⟩ (Nat.le_of_ble_eq_true rfl) ⟨(Nat.le_of_ble_eq_true rfl), (Nat.le_of_ble_eq_true rfl)⟩ rfl kw_d_805 hl.1 hP hS (fun H locs hP hS => ?_)
  exact lv_icmp_eq (tgt := 852) C.1.1 C.1.2.1 kw_d_808 (by decide) (fun _ => kk S hV2 ls H locs hl hP hS) (fun h => absurd rfl h)
set_option maxRecDepth 100000 in
theorem kw_c_transfers (C : kw_C p s m c #[Value.ref b] D ad cA b L xs) (hi : i + 5 ≤ L) (hV : ki_V N M M) (hN : N ≤ 600) (kk : ∀ S, ki_V (N + 1) S S → kw_At p l e s m below meth c D ad cA b i 852 S) : kw_At p l e s m below meth c D ad cA b i 813 M := by
  intro ls H locs hl hP hS
  obtain ⟨v, M1, S, hE1, hE2, hV2⟩ := kw_step (z := kz_BK_transfers) (y := kz_Model_transfers) (A := [.inl (nI (if xs (i + 1) = 0 then 0 else 1))]) hV (by simp) (fun R hR => ow_transfers hR (by split <;> omega))
  refine lv_aload_n C.1.1 C.1.2.1 kw_d_813 rfl (lv_at hl 1 rfl) ?_
  refine kw_arg (j := 1) C (by decide) kw_d_814 kw_d_815 kw_d_816 kw_d_817 kw_d_818 hl (by omega) hS ?_
  refine kw_bool (t1 := 826) (t2 := 827) C kw_d_819 (by decide) kw_d_822 kw_d_823 (by decide) kw_d_826 (by decide) ?_
  refine kw_inv (z := kz_BK_transfers) (c0 := 0) (as := [nI (if xs (i + 1) = 0 then 0 else 1)]) (rest := []) C hE1 kj_BK_transfers (kb_all_in (List.mem_of_getElem? (i := 511) rfl) rfl) rfl rfl ⟨(Nat.le_of_ble_eq_true rfl), (Nat.le_of_ble_eq_true rfl)⟩ (Nat.le_of_ble_eq_true rfl) ⟨(Nat.le_of_ble_eq_true rfl), (Nat.le_of_ble_eq_true rfl)⟩ rfl kw_d_827 hl.1 hP hS (fun H locs hP hS => ?_)
  refine lv_aload_n C.1.1 C.1.2.1 kw_d_830 rfl (lv_at hl 2 rfl) ?_
  refine kw_arg (j := 1) C (by decide) kw_d_831 kw_d_832 kw_d_833 kw_d_834 kw_d_835 hl (by omega) hS ?_
  refine kw_bool (t1 := 843) (t2 := 844) C kw_d_836 (by decide) kw_d_839 kw_d_840 (by decide) kw_d_843 (by decide) ?_
  refine kw_inv (z := kz_Model_transfers) (c0 := 33) (as := [nI (if xs (i + 1) = 0 then 0 else 1)]) (rest := [.int v]) C hE2 kj_Model_transfers (kb_all_in (List.mem_of_getElem? (i := 712) rfl) rfl) rfl rfl ⟨(Nat.le_of_ble_eq_true rfl), (Nat.le_of_ble_eq_true rfl)⟩ (Nat.le_of_ble_eq_true rfl) ⟨(Nat.le_of_ble_eq_true rfl), (Nat.le_of_ble_eq_true rfl)⟩ rfl kw_d_844 hl.1 hP hS (fun H locs hP hS => ?_)
  exact lv_icmp_eq (tgt := 852) C.1.1 C.1.2.1 kw_d_847 (by decide) (fun _ => kk S hV2 ls H locs hl hP hS) (fun h => absurd rfl h)
end KWC
