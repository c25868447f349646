set_option maxRecDepth 20000 in
theorem L_room {f : Fx} {b L : Nat} {xs : Nat → Int32} {cells slots : Nat} {g : Gm} {I : Mm} {z : St} {i a1 a2 : Nat} (hX : Lx f b L xs) (hJ : JV a1 a2 z g I) (hi : i + 7 ≤ L) (h1 : cells + 8 ≤ 600000) (h2 : slots + 52 ≤ 7302249) (kk : ∀ g' I' z', JV a1 a2 z' g' I' → PW f (cells + 8) (slots + 52) g' I' 1203 (lvL b a1 a2 i) []) : PW f cells slots g I 180 (lvL b a1 a2 i) [] := by
  obtain ⟨hw, hv, hm, hG, hM, rfl, rfl⟩ := hJ
  have hC := hX.1
  refine r_aload_n hC dL_law_180 rfl rfl (j := 2) rfl ?_
  refine s_arg hX (k := 1) dL_law_181 dL_law_182 dL_law_183 dL_law_184 dL_law_185 rfl (by decide) hi (by decide) ?_
  refine s_arg hX (k := 2) dL_law_186 dL_law_187 dL_law_188 dL_law_189 dL_law_190 rfl (by decide) hi (by decide) ?_
  refine s_arg hX (k := 3) dL_law_191 dL_law_192 dL_law_193 dL_law_194 dL_law_195 rfl (by decide) hi (by decide) ?_
  refine s_arg hX (k := 4) dL_law_196 dL_law_197 dL_law_198 dL_law_199 dL_law_200 rfl (by decide) hi (by decide) ?_
  refine r_endI hC (rmc := rm_X9_room) (Post := RoomQ g I (u_room z (xs (i + 1)) (xs (i + 2)) (xs (i + 3)) (xs (i + 4)))) (a_V hC (k := 9) (c_X9_room hw hv hG) ci_X9_room gL_law_X9_room rfl ⟨(Nat.le_of_ble_eq_true rfl), (Nat.le_of_ble_eq_true rfl)⟩ ⟨by show cells + 8 ≤ 600000; omega, by show slots + 52 ≤ 7302249; omega⟩ rfl (by decide) hG.o.1 (List.mem_singleton.mp hG.o.2) rfl rfl (Nat.le_of_ble_eq_true rfl) dL_law_201) rfl (fun r u hu => ?_)
  obtain ⟨g2, J⟩ := u
  obtain ⟨e9, hK, hG2, hv, hf⟩ := hu
  dsimp only at hK hG2 hv hf ⊢
  have e0 : gA g2 0 = gA g 0 := (hK 0 (by unfold oD; decide)).2.1
  have e1 : gA g2 100 = gA g 100 := (hK 100 (by unfold oD; decide)).2.1
  have hM2 := hK.M hM
  have hm := hm.fc hf
  show PW f (cells + 8) (slots + 52) g2 J _ (lvL b (gA g 0) (gA g 100) i) _
  rw [← e0, ← e1]
  refine r_aload_n hC dL_law_204 rfl rfl (j := 1) rfl ?_
  refine s_arg hX (k := 1) dL_law_205 dL_law_206 dL_law_207 dL_law_208 dL_law_209 rfl (by decide) hi (by decide) ?_
  refine s_arg hX (k := 2) dL_law_210 dL_law_211 dL_law_212 dL_law_213 dL_law_214 rfl (by decide) hi (by decide) ?_
  refine s_arg hX (k := 3) dL_law_215 dL_law_216 dL_law_217 dL_law_218 dL_law_219 rfl (by decide) hi (by decide) ?_
  refine s_arg hX (k := 4) dL_law_220 dL_law_221 dL_law_222 dL_law_223 dL_law_224 rfl (by decide) hi (by decide) ?_
  have h10 : wp_X10_room (xs (i + 1)) (xs (i + 2)) (xs (i + 3)) (xs (i + 4)) J (fun r K => r = (u_room z (xs (i + 1)) (xs (i + 2)) (xs (i + 3)) (xs (i + 4))).1 ∧ FM J K ∧ MV (u_room z (xs (i + 1)) (xs (i + 2)) (xs (i + 3)) (xs (i + 4))).2 K) := s10_room hw hm (fun J hf hc => ⟨rfl, hf, hc⟩)
  refine r_callI hC (rmc := rm_X10_room) (a_V hC (k := 10) (c_X10_room hM2 h10) ci_X10_room gL_law_X10_room rfl ⟨(Nat.le_of_ble_eq_true rfl), (Nat.le_of_ble_eq_true rfl)⟩ ⟨by show cells + 8 + 0 ≤ 600000; omega, by show slots + 52 + 0 ≤ 7302249; omega⟩ rfl (by decide) hM2.o.1 (List.mem_singleton.mp hM2.o.2) rfl rfl (Nat.le_of_ble_eq_true rfl) dL_law_225) ⟨rfl, rfl⟩ rfl (fun r2 K hK2 => ?_)
  obtain ⟨e10, hf2, hm⟩ := hK2
  have hv := CV.fm (z := (u_room z (xs (i + 1)) (xs (i + 2)) (xs (i + 3)) (xs (i + 4))).2) (wf_room hw).1 hf2 hv
  refine r_icmp_eq hC (tgt := 1203) (P1 := True) (P2 := False) dL_law_228 rfl (by decide) (by rw [if_pos (e9.trans e10.symm)]; trivial) (fun _ => ?_) (fun h => h.elim)
  rw [e0, e1]
  exact kk g2 K _ ⟨wf_room hw, hv, hm, hG2, hM2, e0, e1⟩
