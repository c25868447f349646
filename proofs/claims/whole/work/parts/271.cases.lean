set_option maxRecDepth 20000 in
theorem L_ofDesk {f : Fx} {b L : Nat} {xs : Nat → Int32} {cells slots : Nat} {g : Gm} {I : Mm} {z : St} {i a1 a2 : Nat} (hX : Lx f b L xs) (hJ : JV a1 a2 z g I) (hi : i + 7 ≤ L) (h1 : cells + 8 ≤ 600000) (h2 : slots + 52 ≤ 7302249) (kk : ∀ g' I' z', JV a1 a2 z' g' I' → PW f (cells + 8) (slots + 52) g' I' 1203 (lvL b a1 a2 i) []) : PW f cells slots g I 233 (lvL b a1 a2 i) [] := by
  obtain ⟨hw, hv, hm, hG, hM, rfl, rfl⟩ := hJ
  have hC := hX.1
  refine r_aload_n hC dL_law_233 rfl rfl (j := 2) rfl ?_
  refine s_arg hX (k := 1) dL_law_234 dL_law_235 dL_law_236 dL_law_237 dL_law_238 rfl (by decide) hi (by decide) ?_
  refine s_arg hX (k := 2) dL_law_239 dL_law_240 dL_law_241 dL_law_242 dL_law_243 rfl (by decide) hi (by decide) ?_
  have h9 : wp_X9_ofDesk (gK g) (s_n z) (xs (i + 1)) (xs (i + 2)) I (fun r J => r = (v_ofDesk z (xs (i + 1)) (xs (i + 2))) ∧ FC I J ∧ CV (gK g) z J) := s9_ofDesk hw hv (⟨rfl, FC.rf, hv⟩)
  refine r_callI hC (rmc := rm_X9_ofDesk) (a_V hC (k := 9) (c_X9_ofDesk hG h9) ci_X9_ofDesk gL_law_X9_ofDesk rfl ⟨(Nat.le_of_ble_eq_true rfl), (Nat.le_of_ble_eq_true rfl)⟩ ⟨by show cells + 0 ≤ 600000; omega, by show slots + 0 ≤ 7302249; omega⟩ rfl (by decide) hG.o.1 (List.mem_singleton.mp hG.o.2) rfl rfl (Nat.le_of_ble_eq_true rfl) dL_law_244) ⟨rfl, rfl⟩ rfl (fun r J hJ => ?_)
  obtain ⟨e9, hf, hv⟩ := hJ
  have hm := hm.fc hf
  refine r_aload_n hC dL_law_247 rfl rfl (j := 1) rfl ?_
  refine s_arg hX (k := 1) dL_law_248 dL_law_249 dL_law_250 dL_law_251 dL_law_252 rfl (by decide) hi (by decide) ?_
  refine s_arg hX (k := 2) dL_law_253 dL_law_254 dL_law_255 dL_law_256 dL_law_257 rfl (by decide) hi (by decide) ?_
  have h10 : wp_X10_ofDesk (xs (i + 1)) (xs (i + 2)) J (fun r K => r = (v_ofDesk z (xs (i + 1)) (xs (i + 2))) ∧ FM J K ∧ MV z K) := s10_ofDesk hw hm (fun J hs => ⟨rfl, hs.fm, hm.sm hs⟩)
  refine r_callI hC (rmc := rm_X10_ofDesk) (a_V hC (k := 10) (c_X10_ofDesk hM h10) ci_X10_ofDesk gL_law_X10_ofDesk rfl ⟨(Nat.le_of_ble_eq_true rfl), (Nat.le_of_ble_eq_true rfl)⟩ ⟨by show cells + 0 ≤ 600000; omega, by show slots + 0 ≤ 7302249; omega⟩ rfl (by decide) hM.o.1 (List.mem_singleton.mp hM.o.2) rfl rfl (Nat.le_of_ble_eq_true rfl) dL_law_258) ⟨rfl, rfl⟩ rfl (fun r2 K hK2 => ?_)
  obtain ⟨e10, hf2, hm⟩ := hK2
  have hv := hv.fm hw.1 hf2
  refine r_icmp_eq hC (tgt := 1203) (P1 := True) (P2 := False) dL_law_261 rfl (by decide) (by rw [if_pos (e9.trans e10.symm)]; trivial) (fun _ => ?_) (fun h => h.elim)
  exact r_widen (by omega) (by omega) (kk g K z ⟨hw, hv, hm, hG, hM, rfl, rfl⟩)
set_option maxRecDepth 20000 in
theorem L_lies {f : Fx} {b L : Nat} {xs : Nat → Int32} {cells slots : Nat} {g : Gm} {I : Mm} {z : St} {i a1 a2 : Nat} (hX : Lx f b L xs) (hJ : JV a1 a2 z g I) (hi : i + 7 ≤ L) (h1 : cells + 8 ≤ 600000) (h2 : slots + 52 ≤ 7302249) (kk : ∀ g' I' z', JV a1 a2 z' g' I' → PW f (cells + 8) (slots + 52) g' I' 1203 (lvL b a1 a2 i) []) : PW f cells slots g I 266 (lvL b a1 a2 i) [] := by
  obtain ⟨hw, hv, hm, hG, hM, rfl, rfl⟩ := hJ
  have hC := hX.1
  refine r_aload_n hC dL_law_266 rfl rfl (j := 2) rfl ?_
  refine s_arg hX (k := 1) dL_law_267 dL_law_268 dL_law_269 dL_law_270 dL_law_271 rfl (by decide) hi (by decide) ?_
  refine s_arg hX (k := 2) dL_law_272 dL_law_273 dL_law_274 dL_law_275 dL_law_276 rfl (by decide) hi (by decide) ?_
  have h9 : wp_X9_lies (gK g) (s_n z) (xs (i + 1)) (xs (i + 2)) I (fun r J => r = (v_lies z (xs (i + 1)) (xs (i + 2))) ∧ FC I J ∧ CV (gK g) z J) := s9_lies hw hv (⟨rfl, FC.rf, hv⟩)
  refine r_callI hC (rmc := rm_X9_lies) (a_V hC (k := 9) (c_X9_lies hG h9) ci_X9_lies gL_law_X9_lies rfl ⟨(Nat.le_of_ble_eq_true rfl), (Nat.le_of_ble_eq_true rfl)⟩ ⟨by show cells + 0 ≤ 600000; omega, by show slots + 0 ≤ 7302249; omega⟩ rfl (by decide) hG.o.1 (List.mem_singleton.mp hG.o.2) rfl rfl (Nat.le_of_ble_eq_true rfl) dL_law_277) ⟨rfl, rfl⟩ rfl (fun r J hJ => ?_)
  obtain ⟨e9, hf, hv⟩ := hJ
  have hm := hm.fc hf
  refine r_aload_n hC dL_law_280 rfl rfl (j := 1) rfl ?_
  refine s_arg hX (k := 1) dL_law_281 dL_law_282 dL_law_283 dL_law_284 dL_law_285 rfl (by decide) hi (by decide) ?_
  refine s_arg hX (k := 2) dL_law_286 dL_law_287 dL_law_288 dL_law_289 dL_law_290 rfl (by decide) hi (by decide) ?_
  have h10 : wp_X10_lies (xs (i + 1)) (xs (i + 2)) J (fun r K => r = (v_lies z (xs (i + 1)) (xs (i + 2))) ∧ FM J K ∧ MV z K) := s10_lies hw hm (fun J hs => ⟨rfl, hs.fm, hm.sm hs⟩)
  refine r_callI hC (rmc := rm_X10_lies) (a_V hC (k := 10) (c_X10_lies hM h10) ci_X10_lies gL_law_X10_lies rfl ⟨(Nat.le_of_ble_eq_true rfl), (Nat.le_of_ble_eq_true rfl)⟩ ⟨by show cells + 0 ≤ 600000; omega, by show slots + 0 ≤ 7302249; omega⟩ rfl (by decide) hM.o.1 (List.mem_singleton.mp hM.o.2) rfl rfl (Nat.le_of_ble_eq_true rfl) dL_law_291) ⟨rfl, rfl⟩ rfl (fun r2 K hK2 => ?_)
  obtain ⟨e10, hf2, hm⟩ := hK2
  have hv := hv.fm hw.1 hf2
  refine r_icmp_eq hC (tgt := 1203) (P1 := True) (P2 := False) dL_law_294 rfl (by decide) (by rw [if_pos (e9.trans e10.symm)]; trivial) (fun _ => ?_) (fun h => h.elim)
  exact r_widen (by omega) (by omega) (kk g K z ⟨hw, hv, hm, hG, hM, rfl, rfl⟩)
set_option maxRecDepth 20000 in
theorem L_line {f : Fx} {b L : Nat} {xs : Nat → Int32} {cells slots : Nat} {g : Gm} {I : Mm} {z : St} {i a1 a2 : Nat} (hX : Lx f b L xs) (hJ : JV a1 a2 z g I) (hi : i + 7 ≤ L) (h1 : cells + 8 ≤ 600000) (h2 : slots + 52 ≤ 7302249) (kk : ∀ g' I' z', JV a1 a2 z' g' I' → PW f (cells + 8) (slots + 52) g' I' 1203 (lvL b a1 a2 i) []) : PW f cells slots g I 299 (lvL b a1 a2 i) [] := by
  obtain ⟨hw, hv, hm, hG, hM, rfl, rfl⟩ := hJ
  have hC := hX.1
  refine r_aload_n hC dL_law_299 rfl rfl (j := 2) rfl ?_
  refine s_arg hX (k := 1) dL_law_300 dL_law_301 dL_law_302 dL_law_303 dL_law_304 rfl (by decide) hi (by decide) ?_
  have h9 : wp_X9_line (gK g) (s_n z) (xs (i + 1)) I (fun r J => r = (v_line z (xs (i + 1))) ∧ FC I J ∧ CV (gK g) z J) := s9_line hw hv (⟨rfl, FC.rf, hv⟩)
  refine r_callI hC (rmc := rm_X9_line) (a_V hC (k := 9) (c_X9_line hG h9) ci_X9_line gL_law_X9_line rfl ⟨(Nat.le_of_ble_eq_true rfl), (Nat.le_of_ble_eq_true rfl)⟩ ⟨by show cells + 0 ≤ 600000; omega, by show slots + 0 ≤ 7302249; omega⟩ rfl (by decide) hG.o.1 (List.mem_singleton.mp hG.o.2) rfl rfl (Nat.le_of_ble_eq_true rfl) dL_law_305) ⟨rfl, rfl⟩ rfl (fun r J hJ => ?_)
  obtain ⟨e9, hf, hv⟩ := hJ
  have hm := hm.fc hf
  refine r_aload_n hC dL_law_308 rfl rfl (j := 1) rfl ?_
  refine s_arg hX (k := 1) dL_law_309 dL_law_310 dL_law_311 dL_law_312 dL_law_313 rfl (by decide) hi (by decide) ?_
  have h10 : wp_X10_line (xs (i + 1)) J (fun r K => r = (v_line z (xs (i + 1))) ∧ FM J K ∧ MV z K) := s10_line hw hm (⟨rfl, FM.rf, hm⟩)
  refine r_callI hC (rmc := rm_X10_line) (a_V hC (k := 10) (c_X10_line hM h10) ci_X10_line gL_law_X10_line rfl ⟨(Nat.le_of_ble_eq_true rfl), (Nat.le_of_ble_eq_true rfl)⟩ ⟨by show cells + 0 ≤ 600000; omega, by show slots + 0 ≤ 7302249; omega⟩ rfl (by decide) hM.o.1 (List.mem_singleton.mp hM.o.2) rfl rfl (Nat.le_of_ble_eq_true rfl) dL_law_314) ⟨rfl, rfl⟩ rfl (fun r2 K hK2 => ?_)
  obtain ⟨e10, hf2, hm⟩ := hK2
  have hv := hv.fm hw.1 hf2
  refine r_icmp_eq hC (tgt := 1203) (P1 := True) (P2 := False) dL_law_317 rfl (by decide) (by rw [if_pos (e9.trans e10.symm)]; trivial) (fun _ => ?_) (fun h => h.elim)
  exact r_widen (by omega) (by omega) (kk g K z ⟨hw, hv, hm, hG, hM, rfl, rfl⟩)
set_option maxRecDepth 20000 in
theorem L_build {f : Fx} {b L : Nat} {xs : Nat → Int32} {cells slots : Nat} {g : Gm} {I : Mm} {z : St} {i a1 a2 : Nat} (hX : Lx f b L xs) (hJ : JV a1 a2 z g I) (hi : i + 7 ≤ L) (h1 : cells + 8 ≤ 600000) (h2 : slots + 52 ≤ 7302249) (kk : ∀ g' I' z', JV a1 a2 z' g' I' → PW f (cells + 8) (slots + 52) g' I' 1203 (lvL b a1 a2 i) []) : PW f cells slots g I 322 (lvL b a1 a2 i) [] := by
  obtain ⟨hw, hv, hm, hG, hM, rfl, rfl⟩ := hJ
  have hC := hX.1
  refine r_aload_n hC dL_law_322 rfl rfl (j := 2) rfl ?_
  refine s_arg hX (k := 1) dL_law_323 dL_law_324 dL_law_325 dL_law_326 dL_law_327 rfl (by decide) hi (by decide) ?_
  refine s_arg hX (k := 2) dL_law_328 dL_law_329 dL_law_330 dL_law_331 dL_law_332 rfl (by decide) hi (by decide) ?_
  have h9 : wp_X9_build (gK g) (s_n z) (xs (i + 1)) (xs (i + 2)) I (fun r J => r = (u_build z (xs (i + 1)) (xs (i + 2))).1 ∧ FC I J ∧ CV (gK g) (u_build z (xs (i + 1)) (xs (i + 2))).2 J) := s9_build hw hv (fun J hf hc => ⟨rfl, hf, hc⟩)
  refine r_callI hC (rmc := rm_X9_build) (a_V hC (k := 9) (c_X9_build hG h9) ci_X9_build gL_law_X9_build rfl ⟨(Nat.le_of_ble_eq_true rfl), (Nat.le_of_ble_eq_true rfl)⟩ ⟨by show cells + 0 ≤ 600000; omega, by show slots + 0 ≤ 7302249; omega⟩ rfl (by decide) hG.o.1 (List.mem_singleton.mp hG.o.2) rfl rfl (Nat.le_of_ble_eq_true rfl) dL_law_333) ⟨rfl, rfl⟩ rfl (fun r J hJ => ?_)
  obtain ⟨e9, hf, hv⟩ := hJ
  have hm := hm.fc hf
  refine r_aload_n hC dL_law_336 rfl rfl (j := 1) rfl ?_
  refine s_arg hX (k := 1) dL_law_337 dL_law_338 dL_law_339 dL_law_340 dL_law_341 rfl (by decide) hi (by decide) ?_
  refine s_arg hX (k := 2) dL_law_342 dL_law_343 dL_law_344 dL_law_345 dL_law_346 rfl (by decide) hi (by decide) ?_
  have h10 : wp_X10_build (xs (i + 1)) (xs (i + 2)) J (fun r K => r = (u_build z (xs (i + 1)) (xs (i + 2))).1 ∧ FM J K ∧ MV (u_build z (xs (i + 1)) (xs (i + 2))).2 K) := s10_build hw hm (fun J hf hc => ⟨rfl, hf, hc⟩)
  refine r_callI hC (rmc := rm_X10_build) (a_V hC (k := 10) (c_X10_build hM h10) ci_X10_build gL_law_X10_build rfl ⟨(Nat.le_of_ble_eq_true rfl), (Nat.le_of_ble_eq_true rfl)⟩ ⟨by show cells + 0 ≤ 600000; omega, by show slots + 0 ≤ 7302249; omega⟩ rfl (by decide) hM.o.1 (List.mem_singleton.mp hM.o.2) rfl rfl (Nat.le_of_ble_eq_true rfl) dL_law_347) ⟨rfl, rfl⟩ rfl (fun r2 K hK2 => ?_)
  obtain ⟨e10, hf2, hm⟩ := hK2
  have hv := CV.fm (z := (u_build z (xs (i + 1)) (xs (i + 2))).2) (wf_build hw).1 hf2 hv
  refine r_icmp_eq hC (tgt := 1203) (P1 := True) (P2 := False) dL_law_350 rfl (by decide) (by rw [if_pos (e9.trans e10.symm)]; trivial) (fun _ => ?_) (fun h => h.elim)
  exact r_widen (by omega) (by omega) (kk g K _ ⟨wf_build hw, hv, hm, by rw [ns_build]; exact hG, hM, rfl, rfl⟩)
set_option maxRecDepth 20000 in
theorem L_come {f : Fx} {b L : Nat} {xs : Nat → Int32} {cells slots : Nat} {g : Gm} {I : Mm} {z : St} {i a1 a2 : Nat} (hX : Lx f b L xs) (hJ : JV a1 a2 z g I) (hi : i + 7 ≤ L) (h1 : cells + 8 ≤ 600000) (h2 : slots + 52 ≤ 7302249) (kk : ∀ g' I' z', JV a1 a2 z' g' I' → PW f (cells + 8) (slots + 52) g' I' 1203 (lvL b a1 a2 i) []) : PW f cells slots g I 355 (lvL b a1 a2 i) [] := by
  obtain ⟨hw, hv, hm, hG, hM, rfl, rfl⟩ := hJ
  have hC := hX.1
  refine r_aload_n hC dL_law_355 rfl rfl (j := 2) rfl ?_
  refine s_arg hX (k := 1) dL_law_356 dL_law_357 dL_law_358 dL_law_359 dL_law_360 rfl (by decide) hi (by decide) ?_
  have h9 : wp_X9_come (gK g) (s_n z) (xs (i + 1)) I (fun r J => r = (u_come z (xs (i + 1))).1 ∧ FC I J ∧ CV (gK g) (u_come z (xs (i + 1))).2 J) := s9_come hw hv (fun J hf hc => ⟨rfl, hf, hc⟩)
  refine r_callI hC (rmc := rm_X9_come) (a_V hC (k := 9) (c_X9_come hG h9) ci_X9_come gL_law_X9_come rfl ⟨(Nat.le_of_ble_eq_true rfl), (Nat.le_of_ble_eq_true rfl)⟩ ⟨by show cells + 0 ≤ 600000; omega, by show slots + 0 ≤ 7302249; omega⟩ rfl (by decide) hG.o.1 (List.mem_singleton.mp hG.o.2) rfl rfl (Nat.le_of_ble_eq_true rfl) dL_law_361) ⟨rfl, rfl⟩ rfl (fun r J hJ => ?_)
  obtain ⟨e9, hf, hv⟩ := hJ
  have hm := hm.fc hf
  refine r_aload_n hC dL_law_364 rfl rfl (j := 1) rfl ?_
  refine s_arg hX (k := 1) dL_law_365 dL_law_366 dL_law_367 dL_law_368 dL_law_369 rfl (by decide) hi (by decide) ?_
  have h10 : wp_X10_come (xs (i + 1)) J (fun r K => r = (u_come z (xs (i + 1))).1 ∧ FM J K ∧ MV (u_come z (xs (i + 1))).2 K) := s10_come hw hm (fun J hf hc => ⟨rfl, hf, hc⟩)
  refine r_callI hC (rmc := rm_X10_come) (a_V hC (k := 10) (c_X10_come hM h10) ci_X10_come gL_law_X10_come rfl ⟨(Nat.le_of_ble_eq_true rfl), (Nat.le_of_ble_eq_true rfl)⟩ ⟨by show cells + 0 ≤ 600000; omega, by show slots + 0 ≤ 7302249; omega⟩ rfl (by decide) hM.o.1 (List.mem_singleton.mp hM.o.2) rfl rfl (Nat.le_of_ble_eq_true rfl) dL_law_370) ⟨rfl, rfl⟩ rfl (fun r2 K hK2 => ?_)
  obtain ⟨e10, hf2, hm⟩ := hK2
  have hv := CV.fm (z := (u_come z (xs (i + 1))).2) (wf_come hw).1 hf2 hv
  refine r_icmp_eq hC (tgt := 1203) (P1 := True) (P2 := False) dL_law_373 rfl (by decide) (by rw [if_pos (e9.trans e10.symm)]; trivial) (fun _ => ?_) (fun h => h.elim)
  exact r_widen (by omega) (by omega) (kk g K _ ⟨wf_come hw, hv, hm, by rw [ns_come]; exact hG, hM, rfl, rfl⟩)
set_option maxRecDepth 20000 in
theorem L_anew {f : Fx} {b L : Nat} {xs : Nat → Int32} {cells slots : Nat} {g : Gm} {I : Mm} {z : St} {i a1 a2 : Nat} (hX : Lx f b L xs) (hJ : JV a1 a2 z g I) (hi : i + 7 ≤ L) (h1 : cells + 8 ≤ 600000) (h2 : slots + 52 ≤ 7302249) (kk : ∀ g' I' z', JV a1 a2 z' g' I' → PW f (cells + 8) (slots + 52) g' I' 1203 (lvL b a1 a2 i) []) : PW f cells slots g I 378 (lvL b a1 a2 i) [] := by
  obtain ⟨hw, hv, hm, hG, hM, rfl, rfl⟩ := hJ
  have hC := hX.1
  refine r_aload_n hC dL_law_378 rfl rfl (j := 2) rfl ?_
  have h9 : wp_X9_anew (gK g) (s_n z) I (fun r J => r = (u_anew z).1 ∧ FC I J ∧ CV (gK g) (u_anew z).2 J) := s9_anew hw hv (fun J hf hc => ⟨rfl, hf, hc⟩)
  refine r_callI hC (rmc := rm_X9_anew) (a_V hC (k := 9) (c_X9_anew hG h9) ci_X9_anew gL_law_X9_anew rfl ⟨(Nat.le_of_ble_eq_true rfl), (Nat.le_of_ble_eq_true rfl)⟩ ⟨by show cells + 0 ≤ 600000; omega, by show slots + 0 ≤ 7302249; omega⟩ rfl (by decide) hG.o.1 (List.mem_singleton.mp hG.o.2) rfl rfl (Nat.le_of_ble_eq_true rfl) dL_law_379) ⟨rfl, rfl⟩ rfl (fun r J hJ => ?_)
  obtain ⟨e9, hf, hv⟩ := hJ
  have hm := hm.fc hf
  refine r_aload_n hC dL_law_382 rfl rfl (j := 1) rfl ?_
  have h10 : wp_X10_anew J (fun r K => r = (u_anew z).1 ∧ FM J K ∧ MV (u_anew z).2 K) := s10_anew hw hm (fun J hf hc => ⟨rfl, hf, hc⟩)
  refine r_callI hC (rmc := rm_X10_anew) (a_V hC (k := 10) (c_X10_anew hM h10) ci_X10_anew gL_law_X10_anew rfl ⟨(Nat.le_of_ble_eq_true rfl), (Nat.le_of_ble_eq_true rfl)⟩ ⟨by show cells + 0 ≤ 600000; omega, by show slots + 0 ≤ 7302249; omega⟩ rfl (by decide) hM.o.1 (List.mem_singleton.mp hM.o.2) rfl rfl (Nat.le_of_ble_eq_true rfl) dL_law_383) ⟨rfl, rfl⟩ rfl (fun r2 K hK2 => ?_)
  obtain ⟨e10, hf2, hm⟩ := hK2
  have hv := CV.fm (z := (u_anew z).2) (wf_anew hw).1 hf2 hv
  refine r_icmp_eq hC (tgt := 1203) (P1 := True) (P2 := False) dL_law_386 rfl (by decide) (by rw [if_pos (e9.trans e10.symm)]; trivial) (fun _ => ?_) (fun h => h.elim)
  exact r_widen (by omega) (by omega) (kk g K _ ⟨wf_anew hw, hv, hm, by rw [ns_anew]; exact hG, hM, rfl, rfl⟩)
set_option maxRecDepth 20000 in
theorem L_ask {f : Fx} {b L : Nat} {xs : Nat → Int32} {cells slots : Nat} {g : Gm} {I : Mm} {z : St} {i a1 a2 : Nat} (hX : Lx f b L xs) (hJ : JV a1 a2 z g I) (hi : i + 7 ≤ L) (h1 : cells + 8 ≤ 600000) (h2 : slots + 52 ≤ 7302249) (kk : ∀ g' I' z', JV a1 a2 z' g' I' → PW f (cells + 8) (slots + 52) g' I' 1203 (lvL b a1 a2 i) []) : PW f cells slots g I 391 (lvL b a1 a2 i) [] := by
  obtain ⟨hw, hv, hm, hG, hM, rfl, rfl⟩ := hJ
  have hC := hX.1
  refine r_aload_n hC dL_law_391 rfl rfl (j := 2) rfl ?_
  refine s_arg hX (k := 1) dL_law_392 dL_law_393 dL_law_394 dL_law_395 dL_law_396 rfl (by decide) hi (by decide) ?_
  have h9 : wp_X9_ask (gK g) (s_n z) (xs (i + 1)) I (fun r J => r = (u_ask z (xs (i + 1))).1 ∧ FC I J ∧ CV (gK g) (u_ask z (xs (i + 1))).2 J) := s9_ask hw hv (fun J hf hc => ⟨rfl, hf, hc⟩)
  refine r_callI hC (rmc := rm_X9_ask) (a_V hC (k := 9) (c_X9_ask hG h9) ci_X9_ask gL_law_X9_ask rfl ⟨(Nat.le_of_ble_eq_true rfl), (Nat.le_of_ble_eq_true rfl)⟩ ⟨by show cells + 0 ≤ 600000; omega, by show slots + 0 ≤ 7302249; omega⟩ rfl (by decide) hG.o.1 (List.mem_singleton.mp hG.o.2) rfl rfl (Nat.le_of_ble_eq_true rfl) dL_law_397) ⟨rfl, rfl⟩ rfl (fun r J hJ => ?_)
  obtain ⟨e9, hf, hv⟩ := hJ
  have hm := hm.fc hf
  refine r_aload_n hC dL_law_400 rfl rfl (j := 1) rfl ?_
  refine s_arg hX (k := 1) dL_law_401 dL_law_402 dL_law_403 dL_law_404 dL_law_405 rfl (by decide) hi (by decide) ?_
  have h10 : wp_X10_ask (xs (i + 1)) J (fun r K => r = (u_ask z (xs (i + 1))).1 ∧ FM J K ∧ MV (u_ask z (xs (i + 1))).2 K) := s10_ask hw hm (fun J hf hc => ⟨rfl, hf, hc⟩)
  refine r_callI hC (rmc := rm_X10_ask) (a_V hC (k := 10) (c_X10_ask hM h10) ci_X10_ask gL_law_X10_ask rfl ⟨(Nat.le_of_ble_eq_true rfl), (Nat.le_of_ble_eq_true rfl)⟩ ⟨by show cells + 0 ≤ 600000; omega, by show slots + 0 ≤ 7302249; omega⟩ rfl (by decide) hM.o.1 (List.mem_singleton.mp hM.o.2) rfl rfl (Nat.le_of_ble_eq_true rfl) dL_law_406) ⟨rfl, rfl⟩ rfl (fun r2 K hK2 => ?_)
  obtain ⟨e10, hf2, hm⟩ := hK2
  have hv := CV.fm (z := (u_ask z (xs (i + 1))).2) (wf_ask hw).1 hf2 hv
  refine r_icmp_eq hC (tgt := 1203) (P1 := True) (P2 := False) dL_law_409 rfl (by decide) (by rw [if_pos (e9.trans e10.symm)]; trivial) (fun _ => ?_) (fun h => h.elim)
  exact r_widen (by omega) (by omega) (kk g K _ ⟨wf_ask hw, hv, hm, by rw [ns_ask]; exact hG, hM, rfl, rfl⟩)
set_option maxRecDepth 20000 in
theorem L_drop {f : Fx} {b L : Nat} {xs : Nat → Int32} {cells slots : Nat} {g : Gm} {I : Mm} {z : St} {i a1 a2 : Nat} (hX : Lx f b L xs) (hJ : JV a1 a2 z g I) (hi : i + 7 ≤ L) (h1 : cells + 8 ≤ 600000) (h2 : slots + 52 ≤ 7302249) (kk : ∀ g' I' z', JV a1 a2 z' g' I' → PW f (cells + 8) (slots + 52) g' I' 1203 (lvL b a1 a2 i) []) : PW f cells slots g I 414 (lvL b a1 a2 i) [] := by
  obtain ⟨hw, hv, hm, hG, hM, rfl, rfl⟩ := hJ
  have hC := hX.1
  refine r_aload_n hC dL_law_414 rfl rfl (j := 2) rfl ?_
  have h9 : wp_X9_drop (gK g) (s_n z) I (fun r J => r = (u_drop z).1 ∧ FC I J ∧ CV (gK g) (u_drop z).2 J) := s9_drop hw hv (fun J hf hc => ⟨rfl, hf, hc⟩)
  refine r_callI hC (rmc := rm_X9_drop) (a_V hC (k := 9) (c_X9_drop hG h9) ci_X9_drop gL_law_X9_drop rfl ⟨(Nat.le_of_ble_eq_true rfl), (Nat.le_of_ble_eq_true rfl)⟩ ⟨by show cells + 0 ≤ 600000; omega, by show slots + 0 ≤ 7302249; omega⟩ rfl (by decide) hG.o.1 (List.mem_singleton.mp hG.o.2) rfl rfl (Nat.le_of_ble_eq_true rfl) dL_law_415) ⟨rfl, rfl⟩ rfl (fun r J hJ => ?_)
  obtain ⟨e9, hf, hv⟩ := hJ
  have hm := hm.fc hf
  refine r_aload_n hC dL_law_418 rfl rfl (j := 1) rfl ?_
  have h10 : wp_X10_drop J (fun r K => r = (u_drop z).1 ∧ FM J K ∧ MV (u_drop z).2 K) := s10_drop hw hm (fun J hf hc => ⟨rfl, hf, hc⟩)
  refine r_callI hC (rmc := rm_X10_drop) (a_V hC (k := 10) (c_X10_drop hM h10) ci_X10_drop gL_law_X10_drop rfl ⟨(Nat.le_of_ble_eq_true rfl), (Nat.le_of_ble_eq_true rfl)⟩ ⟨by show cells + 0 ≤ 600000; omega, by show slots + 0 ≤ 7302249; omega⟩ rfl (by decide) hM.o.1 (List.mem_singleton.mp hM.o.2) rfl rfl (Nat.le_of_ble_eq_true rfl) dL_law_419) ⟨rfl, rfl⟩ rfl (fun r2 K hK2 => ?_)
  obtain ⟨e10, hf2, hm⟩ := hK2
  have hv := CV.fm (z := (u_drop z).2) (wf_drop hw).1 hf2 hv
  refine r_icmp_eq hC (tgt := 1203) (P1 := True) (P2 := False) dL_law_422 rfl (by decide) (by rw [if_pos (e9.trans e10.symm)]; trivial) (fun _ => ?_) (fun h => h.elim)
  exact r_widen (by omega) (by omega) (kk g K _ ⟨wf_drop hw, hv, hm, by rw [ns_drop]; exact hG, hM, rfl, rfl⟩)
set_option maxRecDepth 20000 in
theorem L_tale {f : Fx} {b L : Nat} {xs : Nat → Int32} {cells slots : Nat} {g : Gm} {I : Mm} {z : St} {i a1 a2 : Nat} (hX : Lx f b L xs) (hJ : JV a1 a2 z g I) (hi : i + 7 ≤ L) (h1 : cells + 8 ≤ 600000) (h2 : slots + 52 ≤ 7302249) (kk : ∀ g' I' z', JV a1 a2 z' g' I' → PW f (cells + 8) (slots + 52) g' I' 1203 (lvL b a1 a2 i) []) : PW f cells slots g I 427 (lvL b a1 a2 i) [] := by
  obtain ⟨hw, hv, hm, hG, hM, rfl, rfl⟩ := hJ
  have hC := hX.1
  refine r_aload_n hC dL_law_427 rfl rfl (j := 2) rfl ?_
  refine s_arg hX (k := 1) dL_law_428 dL_law_429 dL_law_430 dL_law_431 dL_law_432 rfl (by decide) hi (by decide) ?_
  refine s_arg hX (k := 2) dL_law_433 dL_law_434 dL_law_435 dL_law_436 dL_law_437 rfl (by decide) hi (by decide) ?_
  refine s_arg hX (k := 3) dL_law_438 dL_law_439 dL_law_440 dL_law_441 dL_law_442 rfl (by decide) hi (by decide) ?_
  refine s_arg hX (k := 4) dL_law_443 dL_law_444 dL_law_445 dL_law_446 dL_law_447 rfl (by decide) hi (by decide) ?_
  refine s_arg hX (k := 5) dL_law_448 dL_law_449 dL_law_450 dL_law_451 dL_law_452 rfl (by decide) hi (by decide) ?_
  refine s_arg6 hX (k := 6) dL_law_453 dL_law_454 dL_law_455 dL_law_457 dL_law_458 rfl (by decide) hi (by decide) ?_
  have h9 : wp_X9_tale (gK g) (s_n z) (xs (i + 1)) (xs (i + 2)) (xs (i + 3)) (xs (i + 4)) (xs (i + 5)) (xs (i + 6)) I (fun r J => r = (u_tale z (xs (i + 1)) (xs (i + 2)) (xs (i + 3)) (xs (i + 4)) (xs (i + 5)) (xs (i + 6))).1 ∧ FC I J ∧ CV (gK g) (u_tale z (xs (i + 1)) (xs (i + 2)) (xs (i + 3)) (xs (i + 4)) (xs (i + 5)) (xs (i + 6))).2 J) := s9_tale hw hv (fun J hf hc => ⟨rfl, hf, hc⟩)
  refine r_callI hC (rmc := rm_X9_tale) (a_V hC (k := 9) (c_X9_tale hG h9) ci_X9_tale gL_law_X9_tale rfl ⟨(Nat.le_of_ble_eq_true rfl), (Nat.le_of_ble_eq_true rfl)⟩ ⟨by show cells + 0 ≤ 600000; omega, by show slots + 0 ≤ 7302249; omega⟩ rfl (by decide) hG.o.1 (List.mem_singleton.mp hG.o.2) rfl rfl (Nat.le_of_ble_eq_true rfl) dL_law_459) ⟨rfl, rfl⟩ rfl (fun r J hJ => ?_)
  obtain ⟨e9, hf, hv⟩ := hJ
  have hm := hm.fc hf
  refine r_aload_n hC dL_law_462 rfl rfl (j := 1) rfl ?_
  refine s_arg hX (k := 1) dL_law_463 dL_law_464 dL_law_465 dL_law_466 dL_law_467 rfl (by decide) hi (by decide) ?_
  refine s_arg hX (k := 2) dL_law_468 dL_law_469 dL_law_470 dL_law_471 dL_law_472 rfl (by decide) hi (by decide) ?_
  refine s_arg hX (k := 3) dL_law_473 dL_law_474 dL_law_475 dL_law_476 dL_law_477 rfl (by decide) hi (by decide) ?_
  refine s_arg hX (k := 4) dL_law_478 dL_law_479 dL_law_480 dL_law_481 dL_law_482 rfl (by decide) hi (by decide) ?_
  refine s_arg hX (k := 5) dL_law_483 dL_law_484 dL_law_485 dL_law_486 dL_law_487 rfl (by decide) hi (by decide) ?_
  refine s_arg6 hX (k := 6) dL_law_488 dL_law_489 dL_law_490 dL_law_492 dL_law_493 rfl (by decide) hi (by decide) ?_
  have h10 : wp_X10_tale (xs (i + 1)) (xs (i + 2)) (xs (i + 3)) (xs (i + 4)) (xs (i + 5)) (xs (i + 6)) J (fun r K => r = (u_tale z (xs (i + 1)) (xs (i + 2)) (xs (i + 3)) (xs (i + 4)) (xs (i + 5)) (xs (i + 6))).1 ∧ FM J K ∧ MV (u_tale z (xs (i + 1)) (xs (i + 2)) (xs (i + 3)) (xs (i + 4)) (xs (i + 5)) (xs (i + 6))).2 K) := s10_tale hw hm (fun J hf hc => ⟨rfl, hf, hc⟩)
  refine r_callI hC (rmc := rm_X10_tale) (a_V hC (k := 10) (c_X10_tale hM h10) ci_X10_tale gL_law_X10_tale rfl ⟨(Nat.le_of_ble_eq_true rfl), (Nat.le_of_ble_eq_true rfl)⟩ ⟨by show cells + 0 ≤ 600000; omega, by show slots + 0 ≤ 7302249; omega⟩ rfl (by decide) hM.o.1 (List.mem_singleton.mp hM.o.2) rfl rfl (Nat.le_of_ble_eq_true rfl) dL_law_494) ⟨rfl, rfl⟩ rfl (fun r2 K hK2 => ?_)
  obtain ⟨e10, hf2, hm⟩ := hK2
  have hv := CV.fm (z := (u_tale z (xs (i + 1)) (xs (i + 2)) (xs (i + 3)) (xs (i + 4)) (xs (i + 5)) (xs (i + 6))).2) (wf_tale hw).1 hf2 hv
  refine r_icmp_eq hC (tgt := 1203) (P1 := True) (P2 := False) dL_law_497 rfl (by decide) (by rw [if_pos (e9.trans e10.symm)]; trivial) (fun _ => ?_) (fun h => h.elim)
  exact r_widen (by omega) (by omega) (kk g K _ ⟨wf_tale hw, hv, hm, by rw [ns_tale]; exact hG, hM, rfl, rfl⟩)
set_option maxRecDepth 20000 in
theorem L_misses {f : Fx} {b L : Nat} {xs : Nat → Int32} {cells slots : Nat} {g : Gm} {I : Mm} {z : St} {i a1 a2 : Nat} (hX : Lx f b L xs) (hJ : JV a1 a2 z g I) (hi : i + 7 ≤ L) (h1 : cells + 8 ≤ 600000) (h2 : slots + 52 ≤ 7302249) (kk : ∀ g' I' z', JV a1 a2 z' g' I' → PW f (cells + 8) (slots + 52) g' I' 1203 (lvL b a1 a2 i) []) : PW f cells slots g I 502 (lvL b a1 a2 i) [] := by
  obtain ⟨hw, hv, hm, hG, hM, rfl, rfl⟩ := hJ
  have hC := hX.1
  refine r_aload_n hC dL_law_502 rfl rfl (j := 2) rfl ?_
  refine s_arg hX (k := 1) dL_law_503 dL_law_504 dL_law_505 dL_law_506 dL_law_507 rfl (by decide) hi (by decide) ?_
  refine s_arg hX (k := 2) dL_law_508 dL_law_509 dL_law_510 dL_law_511 dL_law_512 rfl (by decide) hi (by decide) ?_
  have h9 : wp_X9_misses (gK g) (s_n z) (xs (i + 1)) (xs (i + 2)) I (fun r J => r = (v_misses z (xs (i + 1)) (xs (i + 2))) ∧ FC I J ∧ CV (gK g) z J) := s9_misses hw hv (fun J hs => ⟨rfl, hs.fc, hv.sc hw.1 hs⟩)
  refine r_callI hC (rmc := rm_X9_misses) (a_V hC (k := 9) (c_X9_misses hG h9) ci_X9_misses gL_law_X9_misses rfl ⟨(Nat.le_of_ble_eq_true rfl), (Nat.le_of_ble_eq_true rfl)⟩ ⟨by show cells + 0 ≤ 600000; omega, by show slots + 0 ≤ 7302249; omega⟩ rfl (by decide) hG.o.1 (List.mem_singleton.mp hG.o.2) rfl rfl (Nat.le_of_ble_eq_true rfl) dL_law_513) ⟨rfl, rfl⟩ rfl (fun r J hJ => ?_)
  obtain ⟨e9, hf, hv⟩ := hJ
  have hm := hm.fc hf
  refine r_aload_n hC dL_law_516 rfl rfl (j := 1) rfl ?_
  refine s_arg hX (k := 1) dL_law_517 dL_law_518 dL_law_519 dL_law_520 dL_law_521 rfl (by decide) hi (by decide) ?_
  refine s_arg hX (k := 2) dL_law_522 dL_law_523 dL_law_524 dL_law_525 dL_law_526 rfl (by decide) hi (by decide) ?_
  have h10 : wp_X10_misses (xs (i + 1)) (xs (i + 2)) J (fun r K => r = (v_misses z (xs (i + 1)) (xs (i + 2))) ∧ FM J K ∧ MV z K) := s10_misses hw hm (fun J hs => ⟨rfl, hs.fm, hm.sm hs⟩)
  refine r_callI hC (rmc := rm_X10_misses) (a_V hC (k := 10) (c_X10_misses hM h10) ci_X10_misses gL_law_X10_misses rfl ⟨(Nat.le_of_ble_eq_true rfl), (Nat.le_of_ble_eq_true rfl)⟩ ⟨by show cells + 0 ≤ 600000; omega, by show slots + 0 ≤ 7302249; omega⟩ rfl (by decide) hM.o.1 (List.mem_singleton.mp hM.o.2) rfl rfl (Nat.le_of_ble_eq_true rfl) dL_law_527) ⟨rfl, rfl⟩ rfl (fun r2 K hK2 => ?_)
  obtain ⟨e10, hf2, hm⟩ := hK2
  have hv := hv.fm hw.1 hf2
  refine r_icmp_eq hC (tgt := 1203) (P1 := True) (P2 := False) dL_law_530 rfl (by decide) (by rw [if_pos (e9.trans e10.symm)]; trivial) (fun _ => ?_) (fun h => h.elim)
  exact r_widen (by omega) (by omega) (kk g K z ⟨hw, hv, hm, hG, hM, rfl, rfl⟩)
set_option maxRecDepth 20000 in
theorem L_odd {f : Fx} {b L : Nat} {xs : Nat → Int32} {cells slots : Nat} {g : Gm} {I : Mm} {z : St} {i a1 a2 : Nat} (hX : Lx f b L xs) (hJ : JV a1 a2 z g I) (hi : i + 7 ≤ L) (h1 : cells + 8 ≤ 600000) (h2 : slots + 52 ≤ 7302249) (kk : ∀ g' I' z', JV a1 a2 z' g' I' → PW f (cells + 8) (slots + 52) g' I' 1203 (lvL b a1 a2 i) []) : PW f cells slots g I 535 (lvL b a1 a2 i) [] := by
  obtain ⟨hw, hv, hm, hG, hM, rfl, rfl⟩ := hJ
  have hC := hX.1
  refine r_aload_n hC dL_law_535 rfl rfl (j := 2) rfl ?_
  refine s_arg hX (k := 1) dL_law_536 dL_law_537 dL_law_538 dL_law_539 dL_law_540 rfl (by decide) hi (by decide) ?_
  have h9 : wp_X9_odd (gK g) (s_n z) (xs (i + 1)) I (fun r J => r = (v_odd z (xs (i + 1))) ∧ FC I J ∧ CV (gK g) z J) := s9_odd hw hv (fun J hs => ⟨rfl, hs.fc, hv.sc hw.1 hs⟩)
  refine r_callI hC (rmc := rm_X9_odd) (a_V hC (k := 9) (c_X9_odd hG h9) ci_X9_odd gL_law_X9_odd rfl ⟨(Nat.le_of_ble_eq_true rfl), (Nat.le_of_ble_eq_true rfl)⟩ ⟨by show cells + 0 ≤ 600000; omega, by show slots + 0 ≤ 7302249; omega⟩ rfl (by decide) hG.o.1 (List.mem_singleton.mp hG.o.2) rfl rfl (Nat.le_of_ble_eq_true rfl) dL_law_541) ⟨rfl, rfl⟩ rfl (fun r J hJ => ?_)
  obtain ⟨e9, hf, hv⟩ := hJ
  have hm := hm.fc hf
  refine r_aload_n hC dL_law_544 rfl rfl (j := 1) rfl ?_
  refine s_arg hX (k := 1) dL_law_545 dL_law_546 dL_law_547 dL_law_548 dL_law_549 rfl (by decide) hi (by decide) ?_
  have h10 : wp_X10_odd (xs (i + 1)) J (fun r K => r = (v_odd z (xs (i + 1))) ∧ FM J K ∧ MV z K) := s10_odd hw hm (fun J hs => ⟨rfl, hs.fm, hm.sm hs⟩)
  refine r_callI hC (rmc := rm_X10_odd) (a_V hC (k := 10) (c_X10_odd hM h10) ci_X10_odd gL_law_X10_odd rfl ⟨(Nat.le_of_ble_eq_true rfl), (Nat.le_of_ble_eq_true rfl)⟩ ⟨by show cells + 0 ≤ 600000; omega, by show slots + 0 ≤ 7302249; omega⟩ rfl (by decide) hM.o.1 (List.mem_singleton.mp hM.o.2) rfl rfl (Nat.le_of_ble_eq_true rfl) dL_law_550) ⟨rfl, rfl⟩ rfl (fun r2 K hK2 => ?_)
  obtain ⟨e10, hf2, hm⟩ := hK2
  have hv := hv.fm hw.1 hf2
  refine r_icmp_eq hC (tgt := 1203) (P1 := True) (P2 := False) dL_law_553 rfl (by decide) (by rw [if_pos (e9.trans e10.symm)]; trivial) (fun _ => ?_) (fun h => h.elim)
  exact r_widen (by omega) (by omega) (kk g K z ⟨hw, hv, hm, hG, hM, rfl, rfl⟩)
set_option maxRecDepth 20000 in
theorem L_need {f : Fx} {b L : Nat} {xs : Nat → Int32} {cells slots : Nat} {g : Gm} {I : Mm} {z : St} {i a1 a2 : Nat} (hX : Lx f b L xs) (hJ : JV a1 a2 z g I) (hi : i + 7 ≤ L) (h1 : cells + 8 ≤ 600000) (h2 : slots + 52 ≤ 7302249) (kk : ∀ g' I' z', JV a1 a2 z' g' I' → PW f (cells + 8) (slots + 52) g' I' 1203 (lvL b a1 a2 i) []) : PW f cells slots g I 558 (lvL b a1 a2 i) [] := by
  obtain ⟨hw, hv, hm, hG, hM, rfl, rfl⟩ := hJ
  have hC := hX.1
  refine r_aload_n hC dL_law_558 rfl rfl (j := 2) rfl ?_
  refine s_arg hX (k := 1) dL_law_559 dL_law_560 dL_law_561 dL_law_562 dL_law_563 rfl (by decide) hi (by decide) ?_
  refine s_arg hX (k := 2) dL_law_564 dL_law_565 dL_law_566 dL_law_567 dL_law_568 rfl (by decide) hi (by decide) ?_
  have h9 : wp_X9_need (gK g) (s_n z) (xs (i + 1)) (xs (i + 2)) I (fun r J => r = (v_need z (xs (i + 1)) (xs (i + 2))) ∧ FC I J ∧ CV (gK g) z J) := s9_need hw hv (fun J hs => ⟨rfl, hs.fc, hv.sc hw.1 hs⟩)
  refine r_callI hC (rmc := rm_X9_need) (a_V hC (k := 9) (c_X9_need hG h9) ci_X9_need gL_law_X9_need rfl ⟨(Nat.le_of_ble_eq_true rfl), (Nat.le_of_ble_eq_true rfl)⟩ ⟨by show cells + 0 ≤ 600000; omega, by show slots + 0 ≤ 7302249; omega⟩ rfl (by decide) hG.o.1 (List.mem_singleton.mp hG.o.2) rfl rfl (Nat.le_of_ble_eq_true rfl) dL_law_569) ⟨rfl, rfl⟩ rfl (fun r J hJ => ?_)
  obtain ⟨e9, hf, hv⟩ := hJ
  have hm := hm.fc hf
  refine r_aload_n hC dL_law_572 rfl rfl (j := 1) rfl ?_
  refine s_arg hX (k := 1) dL_law_573 dL_law_574 dL_law_575 dL_law_576 dL_law_577 rfl (by decide) hi (by decide) ?_
  refine s_arg hX (k := 2) dL_law_578 dL_law_579 dL_law_580 dL_law_581 dL_law_582 rfl (by decide) hi (by decide) ?_
  have h10 : wp_X10_need (xs (i + 1)) (xs (i + 2)) J (fun r K => r = (v_need z (xs (i + 1)) (xs (i + 2))) ∧ FM J K ∧ MV z K) := s10_need hw hm (fun J hs => ⟨rfl, hs.fm, hm.sm hs⟩)
  refine r_callI hC (rmc := rm_X10_need) (a_V hC (k := 10) (c_X10_need hM h10) ci_X10_need gL_law_X10_need rfl ⟨(Nat.le_of_ble_eq_true rfl), (Nat.le_of_ble_eq_true rfl)⟩ ⟨by show cells + 0 ≤ 600000; omega, by show slots + 0 ≤ 7302249; omega⟩ rfl (by decide) hM.o.1 (List.mem_singleton.mp hM.o.2) rfl rfl (Nat.le_of_ble_eq_true rfl) dL_law_583) ⟨rfl, rfl⟩ rfl (fun r2 K hK2 => ?_)
  obtain ⟨e10, hf2, hm⟩ := hK2
  have hv := hv.fm hw.1 hf2
  refine r_icmp_eq hC (tgt := 1203) (P1 := True) (P2 := False) dL_law_586 rfl (by decide) (by rw [if_pos (e9.trans e10.symm)]; trivial) (fun _ => ?_) (fun h => h.elim)
  exact r_widen (by omega) (by omega) (kk g K z ⟨hw, hv, hm, hG, hM, rfl, rfl⟩)
set_option maxRecDepth 20000 in
theorem L_fewest {f : Fx} {b L : Nat} {xs : Nat → Int32} {cells slots : Nat} {g : Gm} {I : Mm} {z : St} {i a1 a2 : Nat} (hX : Lx f b L xs) (hJ : JV a1 a2 z g I) (hi : i + 7 ≤ L) (h1 : cells + 8 ≤ 600000) (h2 : slots + 52 ≤ 7302249) (kk : ∀ g' I' z', JV a1 a2 z' g' I' → PW f (cells + 8) (slots + 52) g' I' 1203 (lvL b a1 a2 i) []) : PW f cells slots g I 591 (lvL b a1 a2 i) [] := by
  obtain ⟨hw, hv, hm, hG, hM, rfl, rfl⟩ := hJ
  have hC := hX.1
  refine r_aload_n hC dL_law_591 rfl rfl (j := 2) rfl ?_
  refine s_arg hX (k := 1) dL_law_592 dL_law_593 dL_law_594 dL_law_595 dL_law_596 rfl (by decide) hi (by decide) ?_
  have h9 : wp_X9_fewest (gK g) (s_n z) (xs (i + 1)) I (fun r J => r = (v_fewest z (xs (i + 1))) ∧ FC I J ∧ CV (gK g) z J) := s9_fewest hw hv (fun J hs => ⟨rfl, hs.fc, hv.sc hw.1 hs⟩)
  refine r_callI hC (rmc := rm_X9_fewest) (a_V hC (k := 9) (c_X9_fewest hG h9) ci_X9_fewest gL_law_X9_fewest rfl ⟨(Nat.le_of_ble_eq_true rfl), (Nat.le_of_ble_eq_true rfl)⟩ ⟨by show cells + 0 ≤ 600000; omega, by show slots + 0 ≤ 7302249; omega⟩ rfl (by decide) hG.o.1 (List.mem_singleton.mp hG.o.2) rfl rfl (Nat.le_of_ble_eq_true rfl) dL_law_597) ⟨rfl, rfl⟩ rfl (fun r J hJ => ?_)
  obtain ⟨e9, hf, hv⟩ := hJ
  have hm := hm.fc hf
  refine r_aload_n hC dL_law_600 rfl rfl (j := 1) rfl ?_
  refine s_arg hX (k := 1) dL_law_601 dL_law_602 dL_law_603 dL_law_604 dL_law_605 rfl (by decide) hi (by decide) ?_
  have h10 : wp_X10_fewest (xs (i + 1)) J (fun r K => r = (v_fewest z (xs (i + 1))) ∧ FM J K ∧ MV z K) := s10_fewest hw hm (fun J hs => ⟨rfl, hs.fm, hm.sm hs⟩)
  refine r_callI hC (rmc := rm_X10_fewest) (a_V hC (k := 10) (c_X10_fewest hM h10) ci_X10_fewest gL_law_X10_fewest rfl ⟨(Nat.le_of_ble_eq_true rfl), (Nat.le_of_ble_eq_true rfl)⟩ ⟨by show cells + 0 ≤ 600000; omega, by show slots + 0 ≤ 7302249; omega⟩ rfl (by decide) hM.o.1 (List.mem_singleton.mp hM.o.2) rfl rfl (Nat.le_of_ble_eq_true rfl) dL_law_606) ⟨rfl, rfl⟩ rfl (fun r2 K hK2 => ?_)
  obtain ⟨e10, hf2, hm⟩ := hK2
  have hv := hv.fm hw.1 hf2
  refine r_icmp_eq hC (tgt := 1203) (P1 := True) (P2 := False) dL_law_609 rfl (by decide) (by rw [if_pos (e9.trans e10.symm)]; trivial) (fun _ => ?_) (fun h => h.elim)
  exact r_widen (by omega) (by omega) (kk g K z ⟨hw, hv, hm, hG, hM, rfl, rfl⟩)
set_option maxRecDepth 20000 in
theorem L_latest {f : Fx} {b L : Nat} {xs : Nat → Int32} {cells slots : Nat} {g : Gm} {I : Mm} {z : St} {i a1 a2 : Nat} (hX : Lx f b L xs) (hJ : JV a1 a2 z g I) (hi : i + 7 ≤ L) (h1 : cells + 8 ≤ 600000) (h2 : slots + 52 ≤ 7302249) (kk : ∀ g' I' z', JV a1 a2 z' g' I' → PW f (cells + 8) (slots + 52) g' I' 1203 (lvL b a1 a2 i) []) : PW f cells slots g I 614 (lvL b a1 a2 i) [] := by
  obtain ⟨hw, hv, hm, hG, hM, rfl, rfl⟩ := hJ
  have hC := hX.1
  refine r_aload_n hC dL_law_614 rfl rfl (j := 2) rfl ?_
  refine s_arg hX (k := 1) dL_law_615 dL_law_616 dL_law_617 dL_law_618 dL_law_619 rfl (by decide) hi (by decide) ?_
  refine s_arg hX (k := 2) dL_law_620 dL_law_621 dL_law_622 dL_law_623 dL_law_624 rfl (by decide) hi (by decide) ?_
  have h9 : wp_X9_latest (gK g) (s_n z) (xs (i + 1)) (xs (i + 2)) I (fun r J => r = (v_latest z (xs (i + 1)) (xs (i + 2))) ∧ FC I J ∧ CV (gK g) z J) := s9_latest hw hv (fun J hs => ⟨rfl, hs.fc, hv.sc hw.1 hs⟩)
  refine r_callI hC (rmc := rm_X9_latest) (a_V hC (k := 9) (c_X9_latest hG h9) ci_X9_latest gL_law_X9_latest rfl ⟨(Nat.le_of_ble_eq_true rfl), (Nat.le_of_ble_eq_true rfl)⟩ ⟨by show cells + 0 ≤ 600000; omega, by show slots + 0 ≤ 7302249; omega⟩ rfl (by decide) hG.o.1 (List.mem_singleton.mp hG.o.2) rfl rfl (Nat.le_of_ble_eq_true rfl) dL_law_625) ⟨rfl, rfl⟩ rfl (fun r J hJ => ?_)
  obtain ⟨e9, hf, hv⟩ := hJ
  have hm := hm.fc hf
  refine r_aload_n hC dL_law_628 rfl rfl (j := 1) rfl ?_
  refine s_arg hX (k := 1) dL_law_629 dL_law_630 dL_law_631 dL_law_632 dL_law_633 rfl (by decide) hi (by decide) ?_
  refine s_arg hX (k := 2) dL_law_634 dL_law_635 dL_law_636 dL_law_637 dL_law_638 rfl (by decide) hi (by decide) ?_
  have h10 : wp_X10_latest (xs (i + 1)) (xs (i + 2)) J (fun r K => r = (v_latest z (xs (i + 1)) (xs (i + 2))) ∧ FM J K ∧ MV z K) := s10_latest hw hm (⟨rfl, FM.rf, hm⟩)
  refine r_callI hC (rmc := rm_X10_latest) (a_V hC (k := 10) (c_X10_latest hM h10) ci_X10_latest gL_law_X10_latest rfl ⟨(Nat.le_of_ble_eq_true rfl), (Nat.le_of_ble_eq_true rfl)⟩ ⟨by show cells + 0 ≤ 600000; omega, by show slots + 0 ≤ 7302249; omega⟩ rfl (by decide) hM.o.1 (List.mem_singleton.mp hM.o.2) rfl rfl (Nat.le_of_ble_eq_true rfl) dL_law_639) ⟨rfl, rfl⟩ rfl (fun r2 K hK2 => ?_)
  obtain ⟨e10, hf2, hm⟩ := hK2
  have hv := hv.fm hw.1 hf2
  refine r_icmp_eq hC (tgt := 1203) (P1 := True) (P2 := False) dL_law_642 rfl (by decide) (by rw [if_pos (e9.trans e10.symm)]; trivial) (fun _ => ?_) (fun h => h.elim)
  exact r_widen (by omega) (by omega) (kk g K z ⟨hw, hv, hm, hG, hM, rfl, rfl⟩)
set_option maxRecDepth 20000 in
theorem L_depth {f : Fx} {b L : Nat} {xs : Nat → Int32} {cells slots : Nat} {g : Gm} {I : Mm} {z : St} {i a1 a2 : Nat} (hX : Lx f b L xs) (hJ : JV a1 a2 z g I) (hi : i + 7 ≤ L) (h1 : cells + 8 ≤ 600000) (h2 : slots + 52 ≤ 7302249) (kk : ∀ g' I' z', JV a1 a2 z' g' I' → PW f (cells + 8) (slots + 52) g' I' 1203 (lvL b a1 a2 i) []) : PW f cells slots g I 647 (lvL b a1 a2 i) [] := by
  obtain ⟨hw, hv, hm, hG, hM, rfl, rfl⟩ := hJ
  have hC := hX.1
  refine r_aload_n hC dL_law_647 rfl rfl (j := 2) rfl ?_
  refine s_arg hX (k := 1) dL_law_648 dL_law_649 dL_law_650 dL_law_651 dL_law_652 rfl (by decide) hi (by decide) ?_
  have h9 : wp_X9_depth (gK g) (s_n z) (xs (i + 1)) I (fun r J => r = (v_depth z (xs (i + 1))) ∧ FC I J ∧ CV (gK g) z J) := s9_depth hw hv (⟨rfl, FC.rf, hv⟩)
  refine r_callI hC (rmc := rm_X9_depth) (a_V hC (k := 9) (c_X9_depth hG h9) ci_X9_depth gL_law_X9_depth rfl ⟨(Nat.le_of_ble_eq_true rfl), (Nat.le_of_ble_eq_true rfl)⟩ ⟨by show cells + 0 ≤ 600000; omega, by show slots + 0 ≤ 7302249; omega⟩ rfl (by decide) hG.o.1 (List.mem_singleton.mp hG.o.2) rfl rfl (Nat.le_of_ble_eq_true rfl) dL_law_653) ⟨rfl, rfl⟩ rfl (fun r J hJ => ?_)
  obtain ⟨e9, hf, hv⟩ := hJ
  have hm := hm.fc hf
  refine r_aload_n hC dL_law_656 rfl rfl (j := 1) rfl ?_
  refine s_arg hX (k := 1) dL_law_657 dL_law_658 dL_law_659 dL_law_660 dL_law_661 rfl (by decide) hi (by decide) ?_
  have h10 : wp_X10_depth (xs (i + 1)) J (fun r K => r = (v_depth z (xs (i + 1))) ∧ FM J K ∧ MV z K) := s10_depth hw hm (⟨rfl, FM.rf, hm⟩)
  refine r_callI hC (rmc := rm_X10_depth) (a_V hC (k := 10) (c_X10_depth hM h10) ci_X10_depth gL_law_X10_depth rfl ⟨(Nat.le_of_ble_eq_true rfl), (Nat.le_of_ble_eq_true rfl)⟩ ⟨by show cells + 0 ≤ 600000; omega, by show slots + 0 ≤ 7302249; omega⟩ rfl (by decide) hM.o.1 (List.mem_singleton.mp hM.o.2) rfl rfl (Nat.le_of_ble_eq_true rfl) dL_law_662) ⟨rfl, rfl⟩ rfl (fun r2 K hK2 => ?_)
  obtain ⟨e10, hf2, hm⟩ := hK2
  have hv := hv.fm hw.1 hf2
  refine r_icmp_eq hC (tgt := 1203) (P1 := True) (P2 := False) dL_law_665 rfl (by decide) (by rw [if_pos (e9.trans e10.symm)]; trivial) (fun _ => ?_) (fun h => h.elim)
  exact r_widen (by omega) (by omega) (kk g K z ⟨hw, hv, hm, hG, hM, rfl, rfl⟩)
set_option maxRecDepth 20000 in
theorem L_work {f : Fx} {b L : Nat} {xs : Nat → Int32} {cells slots : Nat} {g : Gm} {I : Mm} {z : St} {i a1 a2 : Nat} (hX : Lx f b L xs) (hJ : JV a1 a2 z g I) (hi : i + 7 ≤ L) (h1 : cells + 8 ≤ 600000) (h2 : slots + 52 ≤ 7302249) (kk : ∀ g' I' z', JV a1 a2 z' g' I' → PW f (cells + 8) (slots + 52) g' I' 1203 (lvL b a1 a2 i) []) : PW f cells slots g I 670 (lvL b a1 a2 i) [] := by
  obtain ⟨hw, hv, hm, hG, hM, rfl, rfl⟩ := hJ
  have hC := hX.1
  refine r_aload_n hC dL_law_670 rfl rfl (j := 2) rfl ?_
  refine s_arg hX (k := 1) dL_law_671 dL_law_672 dL_law_673 dL_law_674 dL_law_675 rfl (by decide) hi (by decide) ?_
  refine s_arg hX (k := 2) dL_law_676 dL_law_677 dL_law_678 dL_law_679 dL_law_680 rfl (by decide) hi (by decide) ?_
  have h9 : wp_X9_work (gK g) (s_n z) (xs (i + 1)) (xs (i + 2)) I (fun r J => r = (v_work z (xs (i + 1)) (xs (i + 2))) ∧ FC I J ∧ CV (gK g) z J) := s9_work hw hv (⟨rfl, FC.rf, hv⟩)
  refine r_callI hC (rmc := rm_X9_work) (a_V hC (k := 9) (c_X9_work hG h9) ci_X9_work gL_law_X9_work rfl ⟨(Nat.le_of_ble_eq_true rfl), (Nat.le_of_ble_eq_true rfl)⟩ ⟨by show cells + 0 ≤ 600000; omega, by show slots + 0 ≤ 7302249; omega⟩ rfl (by decide) hG.o.1 (List.mem_singleton.mp hG.o.2) rfl rfl (Nat.le_of_ble_eq_true rfl) dL_law_681) ⟨rfl, rfl⟩ rfl (fun r J hJ => ?_)
  obtain ⟨e9, hf, hv⟩ := hJ
  have hm := hm.fc hf
  refine r_aload_n hC dL_law_684 rfl rfl (j := 1) rfl ?_
  refine s_arg hX (k := 1) dL_law_685 dL_law_686 dL_law_687 dL_law_688 dL_law_689 rfl (by decide) hi (by decide) ?_
  refine s_arg hX (k := 2) dL_law_690 dL_law_691 dL_law_692 dL_law_693 dL_law_694 rfl (by decide) hi (by decide) ?_
  have h10 : wp_X10_work (xs (i + 1)) (xs (i + 2)) J (fun r K => r = (v_work z (xs (i + 1)) (xs (i + 2))) ∧ FM J K ∧ MV z K) := s10_work hw hm (⟨rfl, FM.rf, hm⟩)
  refine r_callI hC (rmc := rm_X10_work) (a_V hC (k := 10) (c_X10_work hM h10) ci_X10_work gL_law_X10_work rfl ⟨(Nat.le_of_ble_eq_true rfl), (Nat.le_of_ble_eq_true rfl)⟩ ⟨by show cells + 0 ≤ 600000; omega, by show slots + 0 ≤ 7302249; omega⟩ rfl (by decide) hM.o.1 (List.mem_singleton.mp hM.o.2) rfl rfl (Nat.le_of_ble_eq_true rfl) dL_law_695) ⟨rfl, rfl⟩ rfl (fun r2 K hK2 => ?_)
  obtain ⟨e10, hf2, hm⟩ := hK2
  have hv := hv.fm hw.1 hf2
  refine r_icmp_eq hC (tgt := 1203) (P1 := True) (P2 := False) dL_law_698 rfl (by decide) (by rw [if_pos (e9.trans e10.symm)]; trivial) (fun _ => ?_) (fun h => h.elim)
  exact r_widen (by omega) (by omega) (kk g K z ⟨hw, hv, hm, hG, hM, rfl, rfl⟩)
