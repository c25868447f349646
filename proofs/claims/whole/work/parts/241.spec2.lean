/-! WHAT EACH CALL ANSWERS AND CHANGES (2): ask, drop, anew, reading, back, fault's calls -/
theorem up2_oc {I : Mm} {c j c' : Nat} {v : Int32} (h : c' ≠ c) : up2 I c j v c' = I c' := by simp [up2, va_up, h]
theorem up2_c {I : Mm} {c j : Nat} {v : Int32} : up2 I c j v c = upd (I c) j v := by simp [up2, va_up]
abbrev zl (z : St) (l : List Nat) (r : List (Nat × Nat × Nat)) : St := (s_n z, l, s_c z, s_k z, s_f z, r, s_s z, s_t z, s_x z)
abbrev zc (z : St) (c : Nat) : St := (s_n z, s_l z, c, s_k z, s_f z, s_r z, s_s z, s_t z, s_x z)
abbrev zf (z : St) (f : Nat → Nat) : St := (s_n z, s_l z, s_c z, s_k z, f, s_r z, s_s z, s_t z, s_x z)
abbrev zs (z : St) (s : Nat → Option (Nat × Nat × (Nat → Int32))) (t : Int32) : St := (s_n z, s_l z, s_c z, s_k z, s_f z, s_r z, s, t, s_x z)
abbrev zt (z : St) (t : Int32) : St := (s_n z, s_l z, s_c z, s_k z, s_f z, s_r z, s_s z, t, s_x z)
abbrev zx (z : St) (x : Int32) : St := (s_n z, s_l z, s_c z, s_k z, s_f z, s_r z, s_s z, s_t z, x)
theorem zt_wf {z : St} (t : Int32) (h : wfS z) : wfS (zt z t) := h
theorem zx_wf {z : St} (x : Int32) (h : wfS z) : wfS (zx z x) := h
theorem CV.t {ki : Nat → Nat} {z : St} {I : Mm} {t : Int32} (h : CV ki z I) : CV ki (zt z t) (up2 I 0 10 t) := by
  obtain ⟨h1, h2, h3, h4, h5, h6, h7, h8, h9⟩ := h
  have o : ∀ c, c ≠ 0 → up2 I 0 10 t c = I c := fun c hc => up2_oc hc
  refine ⟨by rw [up2_c, upd_n _ _ (by decide)]; exact h1, ⟨by rw [o 8 (by decide)]; exact h2.1, by rw [o 9 (by decide)]; exact h2.2⟩, by rw [up2_c, upd_n _ _ (by decide)]; exact h3, fun k hk => ?_, ⟨by rw [o 12 (by decide)]; exact h5.1, by rw [o 13 (by decide), o 14 (by decide), o 15 (by decide)]; exact h5.2⟩, fun k hk => ?_, by rw [up2_c, upd_s], by rw [o 16 (by decide)]; exact h8, h9⟩
  · rw [o (40 + k) (by omega), o (40 + k + 20) (by omega)]; exact h4 k hk
  · rw [o (20 + k) (by omega), o (20 + k + 4) (by omega)]; exact h6 k hk
theorem MV.t {z : St} {I : Mm} {t : Int32} (h : MV z I) : MV (zt z t) (up2 I 100 0 t) := by
  obtain ⟨h1, h2, h3, h4, h5, h6, h7, h8⟩ := h
  have o : ∀ c, c ≠ 100 → up2 I 100 0 t c = I c := fun c hc => up2_oc hc
  refine ⟨by rw [up2_c, upd_n _ _ (by decide)]; exact h1, ⟨by rw [up2_c, upd_n _ _ (by decide)]; exact h2.1, by rw [o 106 (by decide)]; exact h2.2⟩, by rw [up2_c, upd_n _ _ (by decide)]; exact h3, by rw [o 104 (by decide), o 105 (by decide)]; exact h4, ⟨by rw [up2_c, upd_n _ _ (by decide)]; exact h5.1, by rw [o 122 (by decide), o 123 (by decide), o 124 (by decide)]; exact h5.2⟩, by rw [o 125 (by decide), o 126 (by decide), o 127 (by decide)]; exact h6, by rw [up2_c, upd_s], by rw [up2_c, upd_n _ _ (by decide)]; exact h8⟩
theorem CV.x {ki : Nat → Nat} {z : St} {I : Mm} {t : Int32} (h : CV ki z I) : CV ki (zx z t) (up2 I 16 0 t) := by
  obtain ⟨h1, h2, h3, h4, h5, h6, h7, h8, h9⟩ := h
  have o : ∀ c, c ≠ 16 → up2 I 16 0 t c = I c := fun c hc => up2_oc hc
  refine ⟨by rw [o 0 (by decide)]; exact h1, ⟨by rw [o 8 (by decide)]; exact h2.1, by rw [o 9 (by decide)]; exact h2.2⟩, by rw [o 0 (by decide)]; exact h3, fun k hk => ?_, ⟨by rw [o 12 (by decide)]; exact h5.1, by rw [o 13 (by decide), o 14 (by decide), o 15 (by decide)]; exact h5.2⟩, fun k hk => ?_, by rw [o 0 (by decide)]; exact h7, by rw [up2_c, upd_s], h9⟩
  · rw [o (40 + k) (by omega), o (40 + k + 20) (by omega)]; exact h4 k hk
  · rw [o (20 + k) (by omega), o (20 + k + 4) (by omega)]; exact h6 k hk
theorem MV.x {z : St} {I : Mm} {t : Int32} (h : MV z I) : MV (zx z t) (up2 I 100 29 t) := by
  obtain ⟨h1, h2, h3, h4, h5, h6, h7, h8⟩ := h
  have o : ∀ c, c ≠ 100 → up2 I 100 29 t c = I c := fun c hc => up2_oc hc
  refine ⟨by rw [up2_c, upd_n _ _ (by decide)]; exact h1, ⟨by rw [up2_c, upd_n _ _ (by decide)]; exact h2.1, by rw [o 106 (by decide)]; exact h2.2⟩, by rw [up2_c, upd_n _ _ (by decide)]; exact h3, by rw [o 104 (by decide), o 105 (by decide)]; exact h4, ⟨by rw [up2_c, upd_n _ _ (by decide)]; exact h5.1, by rw [o 122 (by decide), o 123 (by decide), o 124 (by decide)]; exact h5.2⟩, by rw [o 125 (by decide), o 126 (by decide), o 127 (by decide)]; exact h6, by rw [up2_c, upd_n _ _ (by decide)]; exact h7, by rw [up2_c, upd_s]⟩
theorem FC.up {I : Mm} {c j : Nat} {v : Int32} (h : c < 100) : FC I (up2 I c j v) := fun d hd => up2_oc (by omega)
theorem FM.up {I : Mm} {c j : Nat} {v : Int32} (h : 100 ≤ c) : FM I (up2 I c j v) := fun d hd => up2_oc (by omega)
/-- the line, or the readings, are other ones -/
theorem CV.l {ki : Nat → Nat} {z : St} {I I' : Mm} {l : List Nat} {r : List (Nat × Nat × Nat)} (h : CV ki z I) (hn : s_n z ≤ 4) (o : ∀ c, c ≠ 8 → c ≠ 9 → c ≠ 12 → c ≠ 13 → c ≠ 14 → c ≠ 15 → I' c = I c) (e1 : I' 8 1 = nI l.length) (e2 : ar (I' 9) l) (e3 : I' 12 3 = nI r.length) (e4 : rdC (I' 13) (I' 14) (I' 15) r) (e5 : l.take (s_c z) = (s_l z).take (s_c z)) : CV ki (zl z l r) I' := by
  obtain ⟨h1, h2, h3, h4, h5, h6, h7, h8, h9⟩ := h
  have o0 := o 0 (by decide) (by decide) (by decide) (by decide) (by decide) (by decide)
  have o16 := o 16 (by decide) (by decide) (by decide) (by decide) (by decide) (by decide)
  refine ⟨by rw [o0]; exact h1, ⟨e1, e2⟩, by rw [o0]; exact h3, fun k hk => ?_, ⟨e3, e4⟩, fun k hk => ?_, by rw [o0]; exact h7, by rw [o16]; exact h8, h9⟩
  · rw [o (40 + k) (by omega) (by omega) (by omega) (by omega) (by omega) (by omega), o (40 + k + 20) (by omega) (by omega) (by omega) (by omega) (by omega) (by omega)]
    have := h4 k hk
    unfold now at this ⊢
    rw [← e5] at this
    exact this
  · rw [o (20 + k) (by omega) (by omega) (by omega) (by omega) (by omega) (by omega), o (20 + k + 4) (by omega) (by omega) (by omega) (by omega) (by omega) (by omega)]; exact h6 k hk
theorem MV.l {z : St} {I I' : Mm} {l : List Nat} {r : List (Nat × Nat × Nat)} (h : MV z I) (o : ∀ c, c ≠ 100 → c ≠ 106 → c ≠ 122 → c ≠ 123 → c ≠ 124 → I' c = I c) (oj : ∀ j, j ≠ 2 → j ≠ 21 → I' 100 j = I 100 j) (e1 : I' 100 2 = nI l.length) (e2 : ar (I' 106) l) (e3 : I' 100 21 = nI r.length) (e4 : rdC (I' 122) (I' 123) (I' 124) r) : MV (zl z l r) I' := by
  obtain ⟨h1, h2, h3, h4, h5, h6, h7, h8⟩ := h
  refine ⟨by rw [oj 1 (by decide) (by decide)]; exact h1, ⟨e1, e2⟩, by rw [oj 3 (by decide) (by decide)]; exact h3, ?_, ⟨e3, e4⟩, ?_, by rw [oj 0 (by decide) (by decide)]; exact h7, by rw [oj 29 (by decide) (by decide)]; exact h8⟩
  · rw [o 104 (by decide) (by decide) (by decide) (by decide) (by decide), o 105 (by decide) (by decide) (by decide) (by decide) (by decide)]; exact h4
  · rw [o 125 (by decide) (by decide) (by decide) (by decide) (by decide), o 126 (by decide) (by decide) (by decide) (by decide) (by decide), o 127 (by decide) (by decide) (by decide) (by decide) (by decide)]; exact h6
def u_ask (z : St) (x : Int32) : Int32 × St := if 0 < s_n z then (if InR x 0 8 then (if (s_l z).length < 24 then (nI ((s_l z).length + 1), zl z (s_l z ++ [x.toNatClampNeg]) (s_r z)) else (-4, z)) else (-2, z)) else (-3, z)
def u_drop (z : St) : Int32 × St := if 0 < s_n z then (if s_c z = (s_l z).length then (-3, z) else if (s_l z).length = 1 then (-3, z) else (nI ((s_l z).getD ((s_l z).length - 1) 0), zl z ((s_l z).take ((s_l z).length - 1)) [])) else (-3, z)
def u_reading (z : St) (x y w : Int32) : Int32 × St := if InR x 0 (s_n z) then (if InR y 0 (s_l z).length then (if InR w 0 2 then (if (s_r z).length < 8 then (nI (s_r z).length, zl z (s_l z) (s_r z ++ [(x.toNatClampNeg, y.toNatClampNeg, w.toNatClampNeg)])) else (-4, z)) else (-2, z)) else (-1, z)) else (-1, z)
def u_back (z : St) (x : Int32) : Int32 × St := if InR x 0 ((s_r z).length + 1) then (nI ((s_r z).length - x.toNatClampNeg), zl z (s_l z) ((s_r z).take ((s_r z).length - x.toNatClampNeg))) else (-2, z)
section SP2
variable {ki : Nat → Nat} {z : St} {I : Mm} {x y w : Int32} {Post : Int32 → Mm → Prop}
theorem m_room0 {n : Nat} {P Q : Prop} (hn : n ≤ 4) (h8 : I 100 1 = nI n) (h1 : ¬ 0 < n → P) (h2 : 0 < n → Q) : if (I 100 1) = 0 then P else Q :=
  t_eq n 0 h8 rfl (by omega) (by decide) (fun e => h1 (by omega)) (fun e => h2 (by omega))
theorem s9_ask {nd : Nat} (hw : wfS z) (hv : CV ki z I) (h : ∀ I', FC I I' → CV ki (u_ask z x).2 I' → Post (u_ask z x).1 I') : wp_X9_ask ki nd x I Post := by
  unfold wp_X9_ask
  refine w_room hw.1 hv.1 ?_
  rw [ite01]
  unfold u_ask at h
  refine t_if (fun h0 => ?_) (fun h0 => ?_)
  · simp only [if_pos h0] at h
    refine w_page ?_
    rw [ite01]
    refine t_if (fun hx => ?_) (fun hx => ?_)
    · simp only [if_pos hx] at h
      obtain ⟨e, -, hk⟩ := hx.n (by decide)
      refine t_lt (s_l z).length 24 hv.2.1.1 rfl (by have := hw.2.1; omega) (by decide) (fun hl => ?_) (fun hl => ?_)
      · simp only [if_pos hl] at h
        unfold wp_X2_append
        refine ⟨vp_n hv.2.1.1 hl (by decide), ?_⟩
        rw [cl_n hv.2.1.1 (by omega), up2_oc (show (8 : Nat) ≠ 9 by decide), hv.2.1.1, show nI (s_l z).length + (1 : Int32) = nI ((s_l z).length + 1) from nI_1 _]
        have e8 : up2 (up2 I 9 (s_l z).length x) 8 1 (nI ((s_l z).length + 1)) 8 1 = nI ((s_l z).length + 1) := by rw [up2_c, upd_s]
        show Post (up2 (up2 I 9 (s_l z).length x) 8 1 (nI ((s_l z).length + 1)) 8 1) _
        rw [e8]
        refine h _ ((FC.up (by decide)).tr (FC.up (by decide))) ?_
        refine hv.l hw.1 (fun c a b _ _ _ _ => by rw [up2_oc a, up2_oc b]) (by rw [e8, List.length_append]; rfl) ?_ ?_ ?_ ?_
        · rw [up2_oc (by decide), up2_c, e]
          have := ar_push hv.2.1.2 x.toNatClampNeg
          rw [← e] at this ⊢
          exact this
        · rw [up2_oc (by decide), up2_oc (by decide)]; exact hv.2.2.2.2.1.1
        · rw [up2_oc (by decide), up2_oc (by decide), up2_oc (by decide), up2_oc (by decide), up2_oc (by decide), up2_oc (by decide)]; exact hv.2.2.2.2.1.2
        · exact List.take_append_of_le_length hw.2.2.2.1
      · simp only [if_neg (Nat.not_lt.mpr hl)] at h; exact h I FC.rf hv
    · simp only [if_neg hx] at h; exact h I FC.rf hv
  · simp only [if_neg h0] at h; exact h I FC.rf hv
theorem s10_ask (hw : wfS z) (hv : MV z I) (h : ∀ I', FM I I' → MV (u_ask z x).2 I' → Post (u_ask z x).1 I') : wp_X10_ask x I Post := by
  unfold wp_X10_ask
  unfold u_ask at h
  refine m_room0 hw.1 hv.1 (fun h0 => ?_) (fun h0 => ?_)
  · simp only [if_neg h0] at h; exact h I FM.rf hv
  · simp only [if_pos h0] at h
    refine m_page ?_
    rw [ite01]
    refine t_if (fun hx => ?_) (fun hx => ?_)
    · simp only [if_pos hx] at h
      obtain ⟨e, -, hk⟩ := hx.n (by decide)
      refine t_eq (s_l z).length 24 hv.2.1.1 rfl (by have := hw.2.1; omega) (by decide) (fun hl => ?_) (fun hl => ?_)
      · simp only [if_neg (show ¬ (s_l z).length < 24 by omega)] at h; exact h I FM.rf hv
      · have hl : (s_l z).length < 24 := by have := hw.2.1; omega
        simp only [if_pos hl] at h
        refine ⟨vp_n hv.2.1.1 hl (by decide), ?_⟩
        rw [cl_n hv.2.1.1 (by omega), up2_oc (show (100 : Nat) ≠ 106 by decide), hv.2.1.1, show nI (s_l z).length + (1 : Int32) = nI ((s_l z).length + 1) from nI_1 _]
        have e8 : up2 (up2 I 106 (s_l z).length x) 100 2 (nI ((s_l z).length + 1)) 100 2 = nI ((s_l z).length + 1) := by rw [up2_c, upd_s]
        rw [e8]
        refine h _ ((FM.up (by decide)).tr (FM.up (by decide))) ?_
        refine hv.l (fun c a b _ _ _ => by rw [up2_oc a, up2_oc b]) (fun j a b => by rw [up2_c, upd_n _ _ a, up2_oc (by decide)]) (by rw [e8, List.length_append]; rfl) ?_ ?_ ?_
        · rw [up2_oc (by decide), up2_c, e]
          have := ar_push hv.2.1.2 x.toNatClampNeg
          rw [← e] at this ⊢
          exact this
        · rw [up2_c, upd_n _ _ (by decide), up2_oc (by decide)]; exact hv.2.2.2.2.1.1
        · rw [up2_oc (by decide), up2_oc (by decide), up2_oc (by decide), up2_oc (by decide), up2_oc (by decide), up2_oc (by decide)]; exact hv.2.2.2.2.1.2
    · simp only [if_neg hx] at h; exact h I FM.rf hv
theorem wf_ask (hw : wfS z) : wfS (u_ask z x).2 := by
  unfold u_ask
  by_cases h0 : 0 < s_n z
  · rw [if_pos h0]
    by_cases hx : InR x 0 8
    · rw [if_pos hx]
      by_cases hl : (s_l z).length < 24
      · rw [if_pos hl]
        obtain ⟨e, -, hk⟩ := hx.n (by decide)
        obtain ⟨h1, h2, h3, h4, h5, h6, h7, h8, h9⟩ := hw
        refine ⟨h1, by show (s_l z ++ [_]).length ≤ 24; rw [List.length_append]; simp; omega, fun p hp => ?_, by show s_c z ≤ (s_l z ++ [_]).length; rw [List.length_append]; omega, h5, ⟨h6.1, fun q hq => ?_⟩, h7, fun e => absurd (show s_n z = 0 from e) (by omega), fun _ => by show s_l z ++ [_] ≠ []; simp⟩
        · have hp : p ∈ s_l z ++ [x.toNatClampNeg] := hp
          rcases List.mem_append.mp hp with a | a
          · exact h3 p a
          · simp only [List.mem_singleton] at a; omega
        · have := h6.2 q hq
          exact ⟨this.1, by show q.2.1 < (s_l z ++ [_]).length; rw [List.length_append]; omega, this.2.2⟩
      · rw [if_neg hl]; exact hw
    · rw [if_neg hx]; exact hw
  · rw [if_neg h0]; exact hw
theorem ar_sub {A : Nat → Int32} {L : List Nat} (h : ar A L) (n : Nat) : ar A (L.take n) := ar_take h n
theorem rd_nil (a b c : Nat → Int32) : rdC a b c [] := fun j h => absurd h (Nat.not_lt_zero j)
theorem s9_drop {nd : Nat} (hw : wfS z) (hv : CV ki z I) (h : ∀ I', FC I I' → CV ki (u_drop z).2 I' → Post (u_drop z).1 I') : wp_X9_drop ki nd I Post := by
  unfold wp_X9_drop
  have hl := hw.2.1
  have hc := hw.2.2.2.1
  refine w_room hw.1 hv.1 ?_
  rw [ite01]
  unfold u_drop at h
  refine t_if (fun h0 => ?_) (fun h0 => ?_)
  · simp only [if_pos h0] at h
    refine t_eq (s_c z) (s_l z).length hv.2.2.1 hv.2.1.1 (by omega) (by omega) (fun e => ?_) (fun e => ?_)
    · simp only [if_pos e] at h; exact h I FC.rf hv
    · simp only [if_neg e] at h
      refine t_eq (s_l z).length 1 hv.2.1.1 rfl (by omega) (by decide) (fun e1 => ?_) (fun e1 => ?_)
      · simp only [if_pos e1] at h; exact h I FC.rf hv
      · simp only [if_neg e1] at h
        have hs : nI (s_l z).length - (1 : Int32) = nI ((s_l z).length - 1) := pk_sub (b := 1) (by omega)
        have e8 : up2 (up2 I 12 3 0) 8 1 (nI ((s_l z).length - 1)) 8 1 = nI ((s_l z).length - 1) := by rw [up2_c, upd_s]
        rw [up2_oc (show (8 : Nat) ≠ 12 by decide), hv.2.1.1, hs, e8]
        refine ⟨vp_in_nI (by omega) (by decide), ?_⟩
        rw [nI_clamp (by omega), up2_oc (show (9 : Nat) ≠ 8 by decide), up2_oc (show (9 : Nat) ≠ 12 by decide), hv.2.1.2 _ (by omega)]
        refine h _ ((FC.up (by decide)).tr (FC.up (by decide))) ?_
        refine hv.l hw.1 (fun c a _ b _ _ _ => by rw [up2_oc a, up2_oc b]) (by rw [e8, List.length_take, Nat.min_eq_left (by omega)]) ?_ ?_ (rd_nil _ _ _) ?_
        · rw [up2_oc (by decide), up2_oc (by decide)]; exact ar_sub hv.2.1.2 _
        · rw [up2_oc (by decide), up2_c, upd_s]; rfl
        · rw [List.take_take, Nat.min_eq_left (by omega)]
  · simp only [if_neg h0] at h; exact h I FC.rf hv
theorem s10_drop (hw : wfS z) (hv : MV z I) (h : ∀ I', FM I I' → MV (u_drop z).2 I' → Post (u_drop z).1 I') : wp_X10_drop I Post := by
  unfold wp_X10_drop
  have hl := hw.2.1
  have hc := hw.2.2.2.1
  unfold u_drop at h
  refine m_room0 hw.1 hv.1 (fun h0 => ?_) (fun h0 => ?_)
  · simp only [if_neg h0] at h; exact h I FM.rf hv
  · simp only [if_pos h0] at h
    refine t_eq (s_c z) (s_l z).length hv.2.2.1 hv.2.1.1 (by omega) (by omega) (fun e => ?_) (fun e => ?_)
    · simp only [if_pos e] at h; exact h I FM.rf hv
    · simp only [if_neg e] at h
      refine t_eq (s_l z).length 1 hv.2.1.1 rfl (by omega) (by decide) (fun e1 => ?_) (fun e1 => ?_)
      · simp only [if_pos e1] at h; exact h I FM.rf hv
      · simp only [if_neg e1] at h
        have hs : nI (s_l z).length - (1 : Int32) = nI ((s_l z).length - 1) := pk_sub (b := 1) (by omega)
        rw [hv.2.1.1, hs]
        have e8 : up2 (up2 I 100 2 (nI ((s_l z).length - 1))) 100 21 0 100 2 = nI ((s_l z).length - 1) := by rw [up2_c, upd_n _ _ (by decide), up2_c, upd_s]
        rw [e8]
        refine ⟨vp_in_nI (by omega) (by decide), ?_⟩
        rw [nI_clamp (by omega), up2_oc (show (106 : Nat) ≠ 100 by decide), up2_oc (show (106 : Nat) ≠ 100 by decide), hv.2.1.2 _ (by omega)]
        refine h _ ((FM.up (by decide)).tr (FM.up (by decide))) ?_
        refine hv.l (fun c a _ _ _ _ => by rw [up2_oc a, up2_oc a]) (fun j a b => by rw [up2_c, upd_n _ _ b, up2_c, upd_n _ _ a]) (by rw [e8, List.length_take, Nat.min_eq_left (by omega)]) ?_ ?_ (rd_nil _ _ _)
        · rw [up2_oc (by decide), up2_oc (by decide)]; exact ar_sub hv.2.1.2 _
        · rw [up2_c, upd_s]; rfl
theorem wf_drop (hw : wfS z) : wfS (u_drop z).2 := by
  unfold u_drop
  by_cases h0 : 0 < s_n z
  · rw [if_pos h0]
    by_cases e : s_c z = (s_l z).length
    · rw [if_pos e]; exact hw
    · rw [if_neg e]
      by_cases e1 : (s_l z).length = 1
      · rw [if_pos e1]; exact hw
      · rw [if_neg e1]
        obtain ⟨h1, h2, h3, h4, h5, h6, h7, h8, h9⟩ := hw
        have hlt : ((s_l z).take ((s_l z).length - 1)).length = (s_l z).length - 1 := by rw [List.length_take]; omega
        have hne : (s_l z).length ≠ 0 := fun q => h9 h0 (List.eq_nil_of_length_eq_zero q)
        refine ⟨h1, by show ((s_l z).take ((s_l z).length - 1)).length ≤ 24; omega, fun p hp => h3 p (List.mem_of_mem_take hp), by show s_c z ≤ ((s_l z).take ((s_l z).length - 1)).length; omega, h5, ⟨Nat.zero_le _, fun q hq => absurd hq List.not_mem_nil⟩, h7, fun q => absurd (show s_n z = 0 from q) (by omega), fun _ q => ?_⟩
        have q : (s_l z).take ((s_l z).length - 1) = [] := q
        rw [q] at hlt
        simp at hlt; omega
  · rw [if_neg h0]; exact hw
theorem rd_push {a b c : Nat → Int32} {r : List (Nat × Nat × Nat)} (h : rdC a b c r) (p q s : Nat) : rdC (upd a r.length (nI p)) (upd b r.length (nI q)) (upd c r.length (nI s)) (r ++ [(p, q, s)]) := by
  intro j hj
  rw [List.length_append, List.length_singleton] at hj
  by_cases e : j = r.length
  · subst e; rw [upd_s, upd_s, upd_s]; simp [List.getD_eq_getElem?_getD]
  · have := h j (by omega)
    rw [upd_n _ _ e, upd_n _ _ e, upd_n _ _ e]
    have e2 : (r ++ [(p, q, s)]).getD j (0, 0, 0) = r.getD j (0, 0, 0) := by simp [List.getD_eq_getElem?_getD, List.getElem?_append_left (show j < r.length by omega)]
    rw [e2]; exact this
theorem rd_take {a b c : Nat → Int32} {r : List (Nat × Nat × Nat)} (h : rdC a b c r) (n : Nat) : rdC a b c (r.take n) := by
  intro j hj
  rw [List.length_take] at hj
  have e : (r.take n).getD j (0, 0, 0) = r.getD j (0, 0, 0) := by simp [List.getD_eq_getElem?_getD, List.getElem?_take, show j < n by omega]
  rw [e]; exact h j (by omega)
theorem s9_reading (hw : wfS z) (hv : CV ki z I) (h : ∀ I', FC I I' → CV ki (u_reading z x y w).2 I' → Post (u_reading z x y w).1 I') : wp_X9_reading ki (s_n z) x y w I Post := by
  unfold wp_X9_reading
  unfold u_reading at h
  refine w_isDesk hw.1 hv.1 ?_
  rw [ite01]
  refine t_if (fun hx => ?_) (fun hx => ?_)
  · simp only [if_pos hx] at h
    obtain ⟨ex, -, hxk⟩ := hx.n (by have := hw.1; omega)
    refine w_has hw.2.1 hv.2.1.1 ?_
    rw [ite01]
    refine t_if (fun hy => ?_) (fun hy => ?_)
    · simp only [if_pos hy] at h
      obtain ⟨ey, -, hyk⟩ := hy.n (by have := hw.2.1; omega)
      refine w9 (a := 0) (b := 2) (by decide) (by decide) ?_
      rw [ite01]
      refine t_if (fun hq => ?_) (fun hq => ?_)
      · simp only [if_pos hq] at h
        obtain ⟨ew, -, hwk⟩ := hq.n (by decide)
        have hr8 := hw.2.2.2.2.2.1.1
        refine t_lt (s_r z).length 8 hv.2.2.2.2.1.1 rfl (by omega) (by decide) (fun hl => ?_) (fun hl => ?_)
        · simp only [if_pos hl] at h
          unfold wp_X4_append
          have e12 : I 12 3 = nI (s_r z).length := hv.2.2.2.2.1.1
          simp only [up2_oc (show (12 : Nat) ≠ 13 by decide), up2_oc (show (12 : Nat) ≠ 14 by decide), up2_oc (show (12 : Nat) ≠ 15 by decide), e12, nI_clamp (show (s_r z).length < 2 ^ 31 by omega)]
          refine ⟨vp_in_nI hl (by decide), vp_in_nI hl (by decide), vp_in_nI hl (by decide), ?_⟩
          rw [show nI (s_r z).length + (1 : Int32) = nI ((s_r z).length + 1) from nI_1 _]
          have e8 : up2 (up2 (up2 (up2 I 13 (s_r z).length x) 14 (s_r z).length y) 15 (s_r z).length w) 12 3 (nI ((s_r z).length + 1)) 12 3 = nI ((s_r z).length + 1) := by rw [up2_c, upd_s]
          rw [e8, show nI ((s_r z).length + 1) - (1 : Int32) = nI (s_r z).length from nI_pred _]
          refine h _ ((FC.up (by decide)).tr ((FC.up (by decide)).tr ((FC.up (by decide)).tr (FC.up (by decide))))) ?_
          refine hv.l hw.1 (fun c _ _ a b d e => by rw [up2_oc a, up2_oc e, up2_oc d, up2_oc b]) ?_ ?_ (by rw [e8, List.length_append]; rfl) ?_ rfl
          · rw [up2_oc (by decide), up2_oc (by decide), up2_oc (by decide), up2_oc (by decide)]; exact hv.2.1.1
          · rw [up2_oc (by decide), up2_oc (by decide), up2_oc (by decide), up2_oc (by decide)]; exact hv.2.1.2
          · rw [up2_oc (show (13 : Nat) ≠ 12 by decide), up2_oc (show (13 : Nat) ≠ 15 by decide), up2_oc (show (13 : Nat) ≠ 14 by decide), up2_c, up2_oc (show (14 : Nat) ≠ 12 by decide), up2_oc (show (14 : Nat) ≠ 15 by decide), up2_c, up2_oc (show (14 : Nat) ≠ 13 by decide), up2_oc (show (15 : Nat) ≠ 12 by decide), up2_c, up2_oc (show (15 : Nat) ≠ 14 by decide), up2_oc (show (15 : Nat) ≠ 13 by decide)]
            have := rd_push hv.2.2.2.2.1.2 x.toNatClampNeg y.toNatClampNeg w.toNatClampNeg
            rw [← ex, ← ey, ← ew] at this
            exact this
        · simp only [if_neg (Nat.not_lt.mpr hl)] at h; exact h I FC.rf hv
      · simp only [if_neg hq] at h; exact h I FC.rf hv
    · simp only [if_neg hy] at h; exact h I FC.rf hv
  · simp only [if_neg hx] at h; exact h I FC.rf hv
theorem s10_reading (hw : wfS z) (hv : MV z I) (h : ∀ I', FM I I' → MV (u_reading z x y w).2 I' → Post (u_reading z x y w).1 I') : wp_X10_reading x y w I Post := by
  unfold wp_X10_reading
  unfold u_reading at h
  refine m_noDesk hw.1 hv.1 ?_
  rw [ite10]
  refine t_if (fun hx => ?_) (fun hx => ?_)
  · simp only [if_pos hx] at h
    obtain ⟨ex, -, hxk⟩ := hx.n (by have := hw.1; omega)
    refine m_noAsk hw.2.1 hv.2.1.1 ?_
    rw [ite10]
    refine t_if (fun hy => ?_) (fun hy => ?_)
    · simp only [if_pos hy] at h
      obtain ⟨ey, -, hyk⟩ := hy.n (by have := hw.2.1; omega)
      refine w10 (a := 0) (b := 2) (by decide) (by decide) ?_
      rw [ite01]
      refine t_if (fun hq => ?_) (fun hq => ?_)
      · simp only [if_pos hq] at h
        obtain ⟨ew, -, hwk⟩ := hq.n (by decide)
        have hr8 := hw.2.2.2.2.2.1.1
        refine t_eq (s_r z).length 8 hv.2.2.2.2.1.1 rfl (by omega) (by decide) (fun hl => ?_) (fun hl => ?_)
        · simp only [if_neg (show ¬ (s_r z).length < 8 by omega)] at h; exact h I FM.rf hv
        · have hl : (s_r z).length < 8 := by omega
          simp only [if_pos hl] at h
          have e12 : I 100 21 = nI (s_r z).length := hv.2.2.2.2.1.1
          simp only [up2_oc (show (100 : Nat) ≠ 122 by decide), up2_oc (show (100 : Nat) ≠ 123 by decide), up2_oc (show (100 : Nat) ≠ 124 by decide), e12, nI_clamp (show (s_r z).length < 2 ^ 31 by omega)]
          refine ⟨vp_in_nI hl (by decide), vp_in_nI hl (by decide), vp_in_nI hl (by decide), ?_⟩
          rw [show nI (s_r z).length + (1 : Int32) = nI ((s_r z).length + 1) from nI_1 _]
          have e8 : up2 (up2 (up2 (up2 I 122 (s_r z).length x) 123 (s_r z).length y) 124 (s_r z).length w) 100 21 (nI ((s_r z).length + 1)) 100 21 = nI ((s_r z).length + 1) := by rw [up2_c, upd_s]
          rw [e8, show nI ((s_r z).length + 1) - (1 : Int32) = nI (s_r z).length from nI_pred _]
          refine h _ ((FM.up (by decide)).tr ((FM.up (by decide)).tr ((FM.up (by decide)).tr (FM.up (by decide))))) ?_
          refine hv.l (fun c a _ b d e => by rw [up2_oc a, up2_oc e, up2_oc d, up2_oc b]) (fun j a b => by rw [up2_c, upd_n _ _ b, up2_oc (by decide), up2_oc (by decide), up2_oc (by decide)]) ?_ ?_ (by rw [e8, List.length_append]; rfl) ?_
          · rw [up2_c, upd_n _ _ (by decide), up2_oc (by decide), up2_oc (by decide), up2_oc (by decide)]; exact hv.2.1.1
          · rw [up2_oc (by decide), up2_oc (by decide), up2_oc (by decide), up2_oc (by decide)]; exact hv.2.1.2
          · rw [up2_oc (show (122 : Nat) ≠ 100 by decide), up2_oc (show (122 : Nat) ≠ 124 by decide), up2_oc (show (122 : Nat) ≠ 123 by decide), up2_c, up2_oc (show (123 : Nat) ≠ 100 by decide), up2_oc (show (123 : Nat) ≠ 124 by decide), up2_c, up2_oc (show (123 : Nat) ≠ 122 by decide), up2_oc (show (124 : Nat) ≠ 100 by decide), up2_c, up2_oc (show (124 : Nat) ≠ 123 by decide), up2_oc (show (124 : Nat) ≠ 122 by decide)]
            have := rd_push hv.2.2.2.2.1.2 x.toNatClampNeg y.toNatClampNeg w.toNatClampNeg
            rw [← ex, ← ey, ← ew] at this
            exact this
      · simp only [if_neg hq] at h; exact h I FM.rf hv
    · simp only [if_neg hy] at h; exact h I FM.rf hv
  · simp only [if_neg hx] at h; exact h I FM.rf hv
theorem wf_reading (hw : wfS z) : wfS (u_reading z x y w).2 := by
  unfold u_reading
  by_cases hx : InR x 0 (s_n z)
  · rw [if_pos hx]
    by_cases hy : InR y 0 (s_l z).length
    · rw [if_pos hy]
      by_cases hq : InR w 0 2
      · rw [if_pos hq]
        by_cases hl : (s_r z).length < 8
        · rw [if_pos hl]
          obtain ⟨h1, h2, h3, h4, h5, h6, h7, h8, h9⟩ := hw
          obtain ⟨ex, -, hxk⟩ := hx.n (by omega)
          obtain ⟨ey, -, hyk⟩ := hy.n (by omega)
          obtain ⟨ew, -, hwk⟩ := hq.n (by decide)
          refine ⟨h1, h2, h3, h4, h5, ⟨by show (s_r z ++ [_]).length ≤ 8; rw [List.length_append]; simp; omega, fun q hq => ?_⟩, h7, h8, h9⟩
          have hq : q ∈ s_r z ++ [(x.toNatClampNeg, y.toNatClampNeg, w.toNatClampNeg)] := hq
          rcases List.mem_append.mp hq with a | a
          · exact h6.2 q a
          · simp only [List.mem_singleton] at a; subst a; exact ⟨hxk, hyk, hwk⟩
        · rw [if_neg hl]; exact hw
      · rw [if_neg hq]; exact hw
    · rw [if_neg hy]; exact hw
  · rw [if_neg hx]; exact hw
theorem s9_back {nd : Nat} (hw : wfS z) (hv : CV ki z I) (h : ∀ I', FC I I' → CV ki (u_back z x).2 I' → Post (u_back z x).1 I') : wp_X9_back ki nd x I Post := by
  unfold wp_X9_back
  unfold u_back at h
  have hr8 := hw.2.2.2.2.2.1.1
  have e12 : I 12 3 = nI (s_r z).length := hv.2.2.2.2.1.1
  refine w9 (a := 0) (b := (s_r z).length + 1) (by decide) (by rw [e12, nI_toInt (by omega)]; omega) ?_
  rw [ite01]
  refine t_if (fun hx => ?_) (fun hx => ?_)
  · simp only [if_pos hx] at h
    obtain ⟨ex, -, hxk⟩ := hx.n (by omega)
    have e1 : nI (s_r z).length - x = nI ((s_r z).length - x.toNatClampNeg) := by
      conv => lhs; rw [ex]
      exact pk_sub (by omega)
    rw [e12, e1]
    have e8 : up2 I 12 3 (nI ((s_r z).length - x.toNatClampNeg)) 12 3 = nI ((s_r z).length - x.toNatClampNeg) := by rw [up2_c, upd_s]
    rw [e8]
    refine h _ (FC.up (by decide)) ?_
    refine hv.l hw.1 (fun c _ _ a _ _ _ => by rw [up2_oc a]) (by rw [up2_oc (by decide)]; exact hv.2.1.1) (by rw [up2_oc (by decide)]; exact hv.2.1.2) (by rw [e8, List.length_take, Nat.min_eq_left (by omega)]) ?_ rfl
    rw [up2_oc (by decide), up2_oc (by decide), up2_oc (by decide)]
    exact rd_take hv.2.2.2.2.1.2 _
  · simp only [if_neg hx] at h; exact h I FC.rf hv
theorem s10_back (hw : wfS z) (hv : MV z I) (h : ∀ I', FM I I' → MV (u_back z x).2 I' → Post (u_back z x).1 I') : wp_X10_back x I Post := by
  unfold wp_X10_back
  unfold u_back at h
  have hr8 := hw.2.2.2.2.2.1.1
  have e12 : I 100 21 = nI (s_r z).length := hv.2.2.2.2.1.1
  refine w10 (a := 0) (b := (s_r z).length + 1) (by decide) (by rw [e12, Int32.toInt_toInt64, nI_toInt (by omega)]; omega) ?_
  rw [ite01]
  refine t_if (fun hx => ?_) (fun hx => ?_)
  · simp only [if_pos hx] at h
    obtain ⟨ex, -, hxk⟩ := hx.n (by omega)
    have e1 : nI (s_r z).length - x = nI ((s_r z).length - x.toNatClampNeg) := by
      conv => lhs; rw [ex]
      exact pk_sub (by omega)
    rw [e12, e1]
    have e8 : up2 I 100 21 (nI ((s_r z).length - x.toNatClampNeg)) 100 21 = nI ((s_r z).length - x.toNatClampNeg) := by rw [up2_c, upd_s]
    rw [e8]
    refine h _ (FM.up (by decide)) ?_
    refine hv.l (fun c a _ _ _ _ => by rw [up2_oc a]) (fun j a b => by rw [up2_c, upd_n _ _ b]) (by rw [up2_c, upd_n _ _ (by decide)]; exact hv.2.1.1) (by rw [up2_oc (by decide)]; exact hv.2.1.2) (by rw [e8, List.length_take, Nat.min_eq_left (by omega)]) ?_
    rw [up2_oc (by decide), up2_oc (by decide), up2_oc (by decide)]
    exact rd_take hv.2.2.2.2.1.2 _
  · simp only [if_neg hx] at h; exact h I FM.rf hv
theorem wf_back (hw : wfS z) : wfS (u_back z x).2 := by
  unfold u_back
  by_cases hx : InR x 0 ((s_r z).length + 1)
  · rw [if_pos hx]
    obtain ⟨h1, h2, h3, h4, h5, h6, h7, h8, h9⟩ := hw
    exact ⟨h1, h2, h3, h4, h5, ⟨by show ((s_r z).take _).length ≤ 8; rw [List.length_take]; omega, fun q hq => h6.2 q (List.mem_of_mem_take hq)⟩, h7, h8, h9⟩
  · rw [if_neg hx]; exact hw
end SP2
