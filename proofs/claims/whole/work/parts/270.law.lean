/-! THE LAW: one call of each kind, the loop, the start -/
def Lx (f : Fx) (b L : Nat) (xs : Nat → Int32) : Prop := Cx f cL_law 4 RL wsL_law room_1 ∧ va_X b L xs (f_s f) (f_s f).heap ∧ b < (f_s f).heap.size ∧ ¬ f_A f b ∧ L ≤ 3584
abbrev lvL (b a1 a2 i : Nat) : List (Nat × Value) := [(3, .int (nI i)), (2, .ref a2), (1, .ref a1), (0, .ref b)]
def JV (a1 a2 : Nat) (z : St) (g : Gm) (I : Mm) : Prop := wfS z ∧ CV (gK g) z I ∧ MV z I ∧ shP g (s_n z) ∧ shM g ∧ gA g 0 = a1 ∧ gA g 100 = a2
section LAW1
variable {f : Fx} {b L : Nat} {xs : Nat → Int32} {cells slots : Nat} {g : Gm} {I : Mm} {pc q : Nat} {lv : List (Nat × Value)} {st : List Value}
theorem s_ld (hX : Lx f b L xs) {i : Int32} (hd : decode cL_law pc = .ok (.iaload, 1)) (hq : pc + 1 = q) (hi : vp_in i L) (kk : PW f cells slots g I q lv (.int (xs i.toNatClampNeg) :: st)) : PW f cells slots g I pc lv (.int i :: .ref b :: st) := by
  subst hq
  intro H locs ls hP hD hS hl
  exact va_sld hX.1.1.1 hX.1.1.2.1 hX.2.1 hX.2.2.1 hX.2.2.2.1 hS hi hd (kk H locs ls hP hD hS hl)
theorem s_len (hX : Lx f b L xs) (hd : decode cL_law pc = .ok (.arraylength, 1)) (hq : pc + 1 = q) (kk : PW f cells slots g I q lv (.int (nI L) :: st)) : PW f cells slots g I pc lv (.ref b :: st) := by
  subst hq
  intro H locs ls hP hD hS hl
  exact va_slen hX.1.1.1 hX.1.1.2.1 hX.2.1 hX.2.2.1 hX.2.2.2.1 hS hd (kk H locs ls hP hD hS hl)
theorem s_arg (hX : Lx f b L xs) {i k : Nat} {K : Int} {a1 a2 : Nat} (d0 : decode cL_law pc = .ok (.aload_n 0, 1)) (d1 : decode cL_law (pc + 1) = .ok (.iload_n 3, 1)) (d2 : decode cL_law (pc + 2) = .ok (.iconst K, 1)) (d3 : decode cL_law (pc + 3) = .ok (.iadd, 1)) (d4 : decode cL_law (pc + 4) = .ok (.iaload, 1)) (hq : pc + 5 = q) (hK : Int32.ofInt K = nI k) (hi : i + 7 ≤ L) (hk : k < 7) (kk : PW f cells slots g I q (lvL b a1 a2 i) (.int (xs (i + k)) :: st)) : PW f cells slots g I pc (lvL b a1 a2 i) st := by
  have hL := hX.2.2.2.2
  refine r_aload_n hX.1 d0 rfl rfl (j := 3) rfl ?_
  refine r_iload_n hX.1 d1 rfl rfl (j := 0) rfl ?_
  refine r_iconst hX.1 d2 rfl hK ?_
  refine r_iadd hX.1 d3 rfl ?_
  rw [nI_add]
  refine s_ld hX d4 hq (vp_in_nI (by omega) (by omega)) ?_
  rw [nI_clamp (by omega)]
  exact kk
theorem s_arg6 (hX : Lx f b L xs) {i k : Nat} {K : Int} {a1 a2 : Nat} (d0 : decode cL_law pc = .ok (.aload_n 0, 1)) (d1 : decode cL_law (pc + 1) = .ok (.iload_n 3, 1)) (d2 : decode cL_law (pc + 2) = .ok (.bipush K, 2)) (d3 : decode cL_law (pc + 4) = .ok (.iadd, 1)) (d4 : decode cL_law (pc + 5) = .ok (.iaload, 1)) (hq : pc + 6 = q) (hK : (Int8.ofInt K).toInt32 = nI k) (hi : i + 7 ≤ L) (hk : k < 7) (kk : PW f cells slots g I q (lvL b a1 a2 i) (.int (xs (i + k)) :: st)) : PW f cells slots g I pc (lvL b a1 a2 i) st := by
  have hL := hX.2.2.2.2
  refine r_aload_n hX.1 d0 rfl rfl (j := 3) rfl ?_
  refine r_iload_n hX.1 d1 rfl rfl (j := 0) rfl ?_
  refine r_bipush hX.1 d2 rfl hK ?_
  refine r_iadd hX.1 d3 rfl ?_
  rw [nI_add]
  refine s_ld hX d4 hq (vp_in_nI (by omega) (by omega)) ?_
  rw [nI_clamp (by omega)]
  exact kk
end LAW1
theorem ns_ask {z : St} {x : Int32} : s_n (u_ask z x).2 = s_n z := by
  unfold u_ask
  repeat' split
  all_goals rfl
theorem ns_drop {z : St} : s_n (u_drop z ).2 = s_n z := by
  unfold u_drop
  repeat' split
  all_goals rfl
theorem ns_reading {z : St} {x y w : Int32} : s_n (u_reading z x y w).2 = s_n z := by
  unfold u_reading
  repeat' split
  all_goals rfl
theorem ns_back {z : St} {x : Int32} : s_n (u_back z x).2 = s_n z := by
  unfold u_back
  repeat' split
  all_goals rfl
theorem ns_tell {z : St} {x : Int32} : s_n (u_tell z x).2 = s_n z := by
  unfold u_tell
  repeat' split
  all_goals rfl
theorem ns_tally {z : St} {x : Int32} : s_n (u_tally z x).2 = s_n z := by
  unfold u_tally
  repeat' split
  all_goals rfl
theorem ns_as {z : St} {x y : Int32} : s_n (u_as z x y).2 = s_n z := by
  unfold u_as
  repeat' split
  all_goals rfl
theorem ns_anew {z : St} : s_n (u_anew z ).2 = s_n z := by
  unfold u_anew
  repeat' split
  all_goals rfl
theorem ns_build {z : St} {x y : Int32} : s_n (u_build z x y).2 = s_n z := by
  unfold u_build
  repeat' split
  all_goals rfl
theorem ns_come {z : St} {x : Int32} : s_n (u_come z x).2 = s_n z := by
  unfold u_come
  repeat' split
  all_goals rfl
theorem ns_sheet {z : St} {x y w : Int32} : s_n (u_sheet z x y w).2 = s_n z := by
  unfold u_sheet
  repeat' split
  all_goals rfl
theorem ns_lose {z : St} {x : Int32} : s_n (u_lose z x).2 = s_n z := by
  unfold u_lose
  repeat' split
  all_goals rfl
theorem ns_put {z : St} {x y w : Int32} : s_n (u_put z x y w).2 = s_n z := by
  unfold u_put
  repeat' split
  all_goals rfl
theorem ns_cell {z : St} {x y w : Int32} : s_n (u_cell z x y w).2 = s_n z := by
  unfold u_cell
  repeat' split
  all_goals rfl
theorem ns_copy {z : St} {x i y j n : Int32} : s_n (u_copy z x i y j n).2 = s_n z := by
  unfold u_copy
  repeat' split
  all_goals rfl
theorem ns_tale {z : St} {x la i n d w : Int32} : s_n (u_tale z x la i n d w).2 = s_n z := by
  unfold u_tale
  repeat' split
  all_goals rfl
