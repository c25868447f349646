/-! WHAT EACH CALL ANSWERS AND CHANGES (4): anew, build, come -/
/-- the desks by the first c asks, whatever else -/
def atc (z : St) (c k : Nat) : DS := ply (s_k z k) (s_f z k) ((s_l z).take c)
def DA (ki : Nat → Nat) (z : St) (c : Nat) (I : Mm) : Prop := ∀ k, k < s_n z → ki (40 + k) = kc (s_k z k) ∧ rp (I (40 + k)) (I (40 + k + 20)) (s_f z k) (atc z c k)
/-- only desks change -/
def dI (I I' : Mm) : Prop := ∀ c, c < 40 ∨ (44 ≤ c ∧ c < 60) ∨ 64 ≤ c → I' c = I c
theorem dI.rf {I : Mm} : dI I I := fun _ _ => rfl
theorem dI.tr {I J K : Mm} (h1 : dI I J) (h2 : dI J K) : dI I K := fun c hc => (h2 c hc).trans (h1 c hc)
theorem dI.of {I J : Mm} {k : Nat} (hk : k < 4) (h : fr2 I J (40 + k)) : dI I J := fun c hc => h c (by omega) (by omega)
theorem dI.fc {I J : Mm} (h : dI I J) : FC I J := fun c hc => h c (by omega)
theorem CV.d {ki : Nat → Nat} {z : St} {I J : Mm} {c : Nat} (hv : CV ki z I) (h : dI I J) (hd : DA ki z c J) : CV ki (zc z c) (up2 J 0 9 (nI c)) := by
  obtain ⟨h1, h2, h3, h4, h5, h6, h7, h8, h9⟩ := hv
  have o : ∀ q, q ≠ 0 → up2 J 0 9 (nI c) q = J q := fun q hq => up2_oc hq
  refine ⟨by rw [up2_c, upd_n _ _ (by decide), h 0 (by decide)]; exact h1, ⟨by rw [o 8 (by decide), h 8 (by decide)]; exact h2.1, by rw [o 9 (by decide), h 9 (by decide)]; exact h2.2⟩, by rw [up2_c, upd_s], fun k hk => ?_, ⟨by rw [o 12 (by decide), h 12 (by decide)]; exact h5.1, by rw [o 13 (by decide), o 14 (by decide), o 15 (by decide), h 13 (by decide), h 14 (by decide), h 15 (by decide)]; exact h5.2⟩, fun k hk => ?_, by rw [up2_c, upd_n _ _ (by decide), h 0 (by decide)]; exact h7, by rw [o 16 (by decide), h 16 (by decide)]; exact h8, h9⟩
  · rw [o (40 + k) (by omega), o (40 + k + 20) (by omega)]; exact hd k hk
  · rw [o (20 + k) (by omega), o (20 + k + 4) (by omega), h (20 + k) (by omega), h (20 + k + 4) (by omega)]; exact h6 k hk
theorem MV.c {z : St} {I : Mm} {c : Nat} (h : MV z I) : MV (zc z c) (up2 I 100 3 (nI c)) := by
  obtain ⟨h1, h2, h3, h4, h5, h6, h7, h8⟩ := h
  have o : ∀ q, q ≠ 100 → up2 I 100 3 (nI c) q = I q := fun q hq => up2_oc hq
  refine ⟨by rw [up2_c, upd_n _ _ (by decide)]; exact h1, ⟨by rw [up2_c, upd_n _ _ (by decide)]; exact h2.1, by rw [o 106 (by decide)]; exact h2.2⟩, by rw [up2_c, upd_s], by rw [o 104 (by decide), o 105 (by decide)]; exact h4, ⟨by rw [up2_c, upd_n _ _ (by decide)]; exact h5.1, by rw [o 122 (by decide), o 123 (by decide), o 124 (by decide)]; exact h5.2⟩, by rw [o 125 (by decide), o 126 (by decide), o 127 (by decide)]; exact h6, by rw [up2_c, upd_n _ _ (by decide)]; exact h7, by rw [up2_c, upd_n _ _ (by decide)]; exact h8⟩
def u_anew (z : St) : Int32 × St := if 0 < s_n z then (nI (s_c z), zc z 0) else (-3, z)
def u_build (z : St) (x y : Int32) : Int32 × St := if InR x 0 (s_n z) then (if InR y 1 6 then (nI (s_f z x.toNatClampNeg), zf z (va_up (s_f z) x.toNatClampNeg y.toNatClampNeg)) else (-2, z)) else (-1, z)
/-- misses of the first j desks by the first c asks -/
def mis (z : St) (c : Nat) : Nat → Nat
  | 0 => 0
  | j + 1 => mis z c j + (atc z c j).2.2
def u_come (z : St) (x : Int32) : Int32 × St := if InR x 1 25 then (if 0 < s_n z then (if s_c z + x.toNatClampNeg ≤ (s_l z).length then (nI (mis z (s_c z + x.toNatClampNeg) (s_n z) - mis z (s_c z) (s_n z)), zc z (s_c z + x.toNatClampNeg)) else (-3, z)) else (-3, z)) else (-2, z)
section SP4
variable {ki : Nat → Nat} {z : St} {I : Mm} {x y w : Int32} {Post : Int32 → Mm → Prop}
theorem s9_anew (hw : wfS z) (hv : CV ki z I) (h : ∀ I', FC I I' → CV ki (u_anew z).2 I' → Post (u_anew z).1 I') : wp_X9_anew ki (s_n z) I Post := by
  have hn := hw.1
  unfold wp_X9_anew
  unfold u_anew at h
  refine w_room hw.1 hv.1 ?_
  rw [ite01]
  refine t_if (fun h0 => ?_) (fun h0 => ?_)
  · simp only [if_pos h0] at h
    have key : ∀ n j (J : Mm), j + n = s_n z → dI I J → (∀ k, k < s_n z → ki (40 + k) = kc (s_k z k) ∧ J (40 + k) 1 = nI (s_f z k)) → (∀ k, k < j → rp (J (40 + k)) (J (40 + k + 20)) (s_f z k) ([], 0, 0)) → wp_X9_anew_22 ki (s_n z) Post (n + 1) (nI (s_c z)) (nI j) (up2 J 0 9 0) := by
      intro n
      induction n with
      | zero =>
        intro j J hj hd hf hc
        unfold wp_X9_anew_22
        rw [up2_c, upd_n _ _ (show (8 : Nat) ≠ 9 by decide), hd 0 (by decide)]
        refine t_le (s_n z) j hv.1 rfl (by omega) (by omega) (fun _ => ?_) (fun q => by omega)
        refine h _ (hd.fc.tr (FC.up (by decide))) ?_
        exact hv.d (c := 0) hd (fun k hk => ⟨(hf k hk).1, hc k (by omega)⟩)
      | succ n ih =>
        intro j J hj hd hf hc
        unfold wp_X9_anew_22
        rw [up2_c, upd_n _ _ (show (8 : Nat) ≠ 9 by decide), hd 0 (by decide)]
        refine t_le (s_n z) j hv.1 rfl (by omega) (by omega) (fun q => by omega) (fun q => ?_)
        refine ⟨vp_in_nI q (by omega), vp_in_nI q (by omega), ?_⟩
        rw [nI_clamp (by omega), up2_oc (show 40 + j ≠ 0 by omega), (hf j q).2]
        refine P_clear (fun J' hfr hr => ?_)
        rw [show nI j + 1 = nI (j + 1) from nI_1 j]
        -- J' is up2 of another memory at 0 9
        have eJ : J' = up2 (va_up J' 0 (J 0)) 0 9 0 := by
          funext c
          by_cases hc0 : c = 0
          · subst hc0
            rw [hfr 0 (by omega) (by omega), up2_c, up2_c]; simp [va_up]
          · rw [up2_oc hc0]; simp [va_up, hc0]
        have oJ : ∀ c, c ≠ 40 + j → c ≠ 40 + j + 20 → va_up J' 0 (J 0) c = J c := by
          intro c a b
          by_cases hc0 : c = 0
          · subst hc0; simp [va_up]
          · simp only [va_up, if_neg hc0]; rw [hfr c a b, up2_oc hc0]
        have iJ : ∀ c, c ≠ 0 → va_up J' 0 (J 0) c = J' c := fun c a => by simp [va_up, a]
        rw [eJ]
        refine ih (j + 1) _ (by omega) (hd.tr (fun c hc => oJ c (by omega) (by omega))) (fun k hk => ?_) (fun k hk => ?_)
        · by_cases hkj : k = j
          · subst hkj; rw [iJ _ (by omega)]; exact ⟨(hf k hk).1, hr.1⟩
          · rw [oJ _ (by omega) (by omega)]; exact hf k hk
        · by_cases hkj : k = j
          · subst hkj; rw [iJ _ (by omega), iJ _ (by omega)]; exact hr
          · rw [oJ _ (by omega) (by omega), oJ _ (by omega) (by omega)]; exact hc k (by omega)
    rw [hv.2.2.1]
    exact ⟨s_n z + 1, key (s_n z) 0 I (by omega) dI.rf (fun k hk => ⟨(hv.2.2.2.1 k hk).1, (hv.2.2.2.1 k hk).2.1⟩) (fun k hk => absurd hk (Nat.not_lt_zero _))⟩
  · simp only [if_neg h0] at h; exact h I FC.rf hv
theorem s10_anew (hw : wfS z) (hv : MV z I) (h : ∀ I', FM I I' → MV (u_anew z).2 I' → Post (u_anew z).1 I') : wp_X10_anew I Post := by
  unfold wp_X10_anew
  unfold u_anew at h
  refine m_room0 hw.1 hv.1 (fun h0 => ?_) (fun h0 => ?_)
  · simp only [if_neg h0] at h; exact h I FM.rf hv
  · simp only [if_pos h0] at h
    rw [hv.2.2.1]
    exact h _ (FM.up (by decide)) (hv.c (c := 0))
theorem wf_anew (hw : wfS z) : wfS (u_anew z).2 := by
  unfold u_anew
  by_cases h0 : 0 < s_n z
  · rw [if_pos h0]
    obtain ⟨h1, h2, h3, h4, h5, h6, h7, h8, h9⟩ := hw
    exact ⟨h1, h2, h3, Nat.zero_le _, h5, h6, h7, h8, h9⟩
  · rw [if_neg h0]; exact hw
/-- a desk is asked the line's asks from j on -/
theorem P_replay {k f : Nat} {l : List Nat} {n d : Nat} {nd : Nat} {v : Int32} (hk3 : k < 3) (hki : ki d = kc k) (hf : f ≤ 8) (hf1 : 1 ≤ f) (hd : 40 ≤ d ∧ d < 44) (hl : l.length ≤ 24) (hlp : ∀ p ∈ l, p < 8) (hn : n ≤ l.length) : ∀ i j (J : Mm), j + i = n → J 0 9 = nI n → ar (J 9) l → rp (J d) (J (d + 20)) f (ply k f (l.take j)) → (∀ J', fr2 J J' d → rp (J' d) (J' (d + 20)) f (ply k f (l.take n)) → Post v J') → wp_X9_build_43 ki nd Post (i + 1) d v (nI j) J := by
  intro i
  induction i with
  | zero =>
    intro j J hj e9 ha hr h
    unfold wp_X9_build_43
    refine t_le n j e9 rfl (by omega) (by omega) (fun _ => ?_) (fun q => by omega)
    have : j = n := by omega
    subst this
    exact h J fr2.rf hr
  | succ i ih =>
    intro j J hj e9 ha hr h
    unfold wp_X9_build_43
    refine t_le n j e9 rfl (by omega) (by omega) (fun q => by omega) (fun q => ?_)
    refine ⟨vp_in_nI (by omega) (by decide), ?_⟩
    rw [nI_clamp (by omega), ha j (by omega)]
    have hok := ply_ok (k := k) hf1 (l.take j) ([], 0, 0) (ok0 f) (fun p hp => hlp p (List.mem_of_mem_take hp))
    refine P_serve hk3 hki hr hok hf hf1 (hlp _ (mem_of_getD (by omega))) (fun J' hfr hr' => ?_)
    rw [show nI j + 1 = nI (j + 1) from nI_1 j]
    refine ih (j + 1) J' (by omega) (by rw [hfr 0 (by omega) (by omega)]; exact e9) (by rw [hfr 9 (by omega) (by omega)]; exact ha) ?_ (fun J'' h1 h2 => h J'' (hfr.tr h1) h2)
    rw [take_succ_getD (by omega)]
    unfold ply
    rw [List.foldl_append]
    exact hr'
theorem s9_build (hw : wfS z) (hv : CV ki z I) (h : ∀ I', FC I I' → CV ki (u_build z x y).2 I' → Post (u_build z x y).1 I') : wp_X9_build ki (s_n z) x y I Post := by
  have hn := hw.1
  unfold wp_X9_build
  unfold u_build at h
  refine w_isDesk hw.1 hv.1 ?_
  rw [ite01]
  refine t_if (fun hx => ?_) (fun hx => ?_)
  · simp only [if_pos hx] at h
    obtain ⟨e, -, hk⟩ := hx.n (by omega)
    obtain ⟨ok, k3, f1, f5⟩ := wf_now hw hk
    obtain ⟨hki, hr⟩ := hv.2.2.2.1 _ hk
    refine w9 (a := 1) (b := 6) (by decide) (by decide) ?_
    rw [ite01]
    refine t_if (fun hy => ?_) (fun hy => ?_)
    · simp only [if_pos hy] at h
      obtain ⟨ey, hy1, hy6⟩ := hy.n (by decide)
      refine ⟨vp_n e hk (by omega), ?_⟩
      rw [hr.1, ey]
      refine P_clear (fun J hfr hrJ => ?_)
      refine ⟨s_c z + 1, P_replay (l := s_l z) k3 hki (by omega) hy1 (by omega) hw.2.1 hw.2.2.1 hw.2.2.2.1 (s_c z) 0 J (by omega) (by rw [hfr 0 (by omega) (by omega)]; exact hv.2.2.1) (by rw [hfr 9 (by omega) (by omega)]; exact hv.2.1.2) hrJ (fun J' hfr' hr' => ?_)⟩
      have hf2 := hfr.tr hfr'
      refine h J' (hf2.fc (by omega)) ?_
      obtain ⟨h1, h2, h3, h4, h5, h6, h7, h8, h9⟩ := hv
      have o : ∀ c, c ≠ 40 + x.toNatClampNeg → c ≠ 40 + x.toNatClampNeg + 20 → J' c = I c := hf2
      refine ⟨by rw [o 0 (by omega) (by omega)]; exact h1, ⟨by rw [o 8 (by omega) (by omega)]; exact h2.1, by rw [o 9 (by omega) (by omega)]; exact h2.2⟩, by rw [o 0 (by omega) (by omega)]; exact h3, fun k hk2 => ?_, ⟨by rw [o 12 (by omega) (by omega)]; exact h5.1, by rw [o 13 (by omega) (by omega), o 14 (by omega) (by omega), o 15 (by omega) (by omega)]; exact h5.2⟩, fun k hk2 => ?_, by rw [o 0 (by omega) (by omega)]; exact h7, by rw [o 16 (by omega) (by omega)]; exact h8, h9⟩
      · have hk2 : k < s_n z := hk2
        show ki (40 + k) = kc (s_k z k) ∧ rp (J' (40 + k)) (J' (40 + k + 20)) (va_up (s_f z) x.toNatClampNeg y.toNatClampNeg k) (ply (s_k z k) (va_up (s_f z) x.toNatClampNeg y.toNatClampNeg k) ((s_l z).take (s_c z)))
        by_cases hkx : k = x.toNatClampNeg
        · subst hkx
          rw [va_up_self]
          exact ⟨hki, hr'⟩
        · rw [va_up_ne _ _ hkx, o (40 + k) (by omega) (by omega), o (40 + k + 20) (by omega) (by omega)]
          exact h4 k hk2
      · rw [o (20 + k) (by omega) (by omega), o (20 + k + 4) (by omega) (by omega)]; exact h6 k hk2
    · simp only [if_neg hy] at h; exact h I FC.rf hv
  · simp only [if_neg hx] at h; exact h I FC.rf hv
theorem s10_build (hw : wfS z) (hv : MV z I) (h : ∀ I', FM I I' → MV (u_build z x y).2 I' → Post (u_build z x y).1 I') : wp_X10_build x y I Post := by
  have hn := hw.1
  unfold wp_X10_build
  unfold u_build at h
  refine m_noDesk hw.1 hv.1 ?_
  rw [ite10]
  refine t_if (fun hx => ?_) (fun hx => ?_)
  · simp only [if_pos hx] at h
    obtain ⟨e, -, hk⟩ := hx.n (by omega)
    obtain ⟨ok, k3, f1, f5⟩ := wf_now hw hk
    refine w10 (a := 1) (b := 6) (by decide) (by decide) ?_
    rw [ite01]
    refine t_if (fun hy => ?_) (fun hy => ?_)
    · simp only [if_pos hy] at h
      obtain ⟨ey, hy1, hy6⟩ := hy.n (by decide)
      refine ⟨vp_n e (by omega) (by decide), vp_n e (by omega) (by decide), ?_⟩
      rw [(hv.2.2.2.1 _ hk).2]
      refine h _ (FM.up (by decide)) ?_
      obtain ⟨h1, h2, h3, h4, h5, h6, h7, h8⟩ := hv
      have o : ∀ c, c ≠ 105 → up2 I 105 x.toNatClampNeg y c = I c := fun c hc => up2_oc hc
      refine ⟨by rw [o 100 (by decide)]; exact h1, ⟨by rw [o 100 (by decide)]; exact h2.1, by rw [o 106 (by decide)]; exact h2.2⟩, by rw [o 100 (by decide)]; exact h3, fun k hk2 => ?_, ⟨by rw [o 100 (by decide)]; exact h5.1, by rw [o 122 (by decide), o 123 (by decide), o 124 (by decide)]; exact h5.2⟩, by rw [o 125 (by decide), o 126 (by decide), o 127 (by decide)]; exact h6, by rw [o 100 (by decide)]; exact h7, by rw [o 100 (by decide)]; exact h8⟩
      have hk2 : k < s_n z := hk2
      rw [o 104 (by decide), up2_c]
      show I 104 k = nI (s_k z k) ∧ upd (I 105) x.toNatClampNeg y k = nI (va_up (s_f z) x.toNatClampNeg y.toNatClampNeg k)
      refine ⟨(h4 k hk2).1, ?_⟩
      by_cases hkx : k = x.toNatClampNeg
      · rw [hkx, upd_s, va_up_self]; exact ey
      · rw [upd_n _ _ hkx, va_up_ne _ _ hkx]; exact (h4 k hk2).2
    · simp only [if_neg hy] at h; exact h I FM.rf hv
  · simp only [if_neg hx] at h; exact h I FM.rf hv
theorem wf_build (hw : wfS z) : wfS (u_build z x y).2 := by
  unfold u_build
  by_cases hx : InR x 0 (s_n z)
  · rw [if_pos hx]
    by_cases hy : InR y 1 6
    · rw [if_pos hy]
      obtain ⟨ey, hy1, hy6⟩ := hy.n (by decide)
      obtain ⟨h1, h2, h3, h4, h5, h6, h7, h8, h9⟩ := hw
      refine ⟨h1, h2, h3, h4, fun k hk => ?_, h6, h7, h8, h9⟩
      have := h5 k hk
      show s_k z k < 3 ∧ 1 ≤ va_up (s_f z) x.toNatClampNeg y.toNatClampNeg k ∧ va_up (s_f z) x.toNatClampNeg y.toNatClampNeg k ≤ 5
      by_cases hkx : k = x.toNatClampNeg
      · rw [hkx, va_up_self]; rw [hkx] at this; exact ⟨this.1, hy1, by omega⟩
      · rw [va_up_ne _ _ hkx]; exact this
    · rw [if_neg hy]; exact hw
  · rw [if_neg hx]; exact hw
theorem atc_succ {c k : Nat} (hc : c < (s_l z).length) : atc z (c + 1) k = stp (s_k z k) (s_f z k) (atc z c k) ((s_l z).getD c 0) := by
  unfold atc ply
  rw [take_succ_getD hc, List.foldl_append]; rfl
theorem stp_m {k f p : Nat} {s : DS} : (stp k f s p).2.2 = s.2.2 + (if p ∈ s.1 then 0 else 1) := by
  unfold stp
  by_cases h : p ∈ s.1
  · rw [if_pos h, if_pos h]
    by_cases h0 : k = 0
    · rw [if_pos h0]; rfl
    · rw [if_neg h0]
      by_cases h1 : k = 1
      · rw [if_pos h1]; rfl
      · rw [if_neg h1]; rfl
  · rw [if_neg h, if_neg h]
theorem mis_mono {c : Nat} (hc : c < (s_l z).length) : ∀ j, mis z c j ≤ mis z (c + 1) j := by
  intro j
  induction j with
  | zero => exact Nat.le_refl _
  | succ j ih => show mis z c j + _ ≤ mis z (c + 1) j + _; rw [atc_succ hc, stp_m]; omega
theorem mis_mono2 {c : Nat} : ∀ n, c + n ≤ (s_l z).length → ∀ j, mis z c j ≤ mis z (c + n) j := by
  intro n
  induction n with
  | zero => intro _ j; exact Nat.le_refl _
  | succ n ih => intro h j; exact Nat.le_trans (ih (by omega) j) (mis_mono (by omega) j)
theorem atc_ok (hw : wfS z) {c k : Nat} (hk : k < s_n z) : okD (s_f z k) (atc z c k) :=
  ply_ok (hw.2.2.2.2.1 k hk).2.1 _ _ (ok0 _) (fun p hp => hw.2.2.1 p (List.mem_of_mem_take hp))
theorem P_all {c : Nat} (hw : wfS z) (h8 : I 0 8 = nI (s_n z)) (hc : c < (s_l z).length) (hd : DA ki z c I) (h : ∀ I', dI I I' → DA ki z (c + 1) I' → Post (nI (mis z (c + 1) (s_n z) - mis z c (s_n z))) I') : wp_X9_missesOfAll ki (s_n z) (nI ((s_l z).getD c 0)) I Post := by
  have hn := hw.1
  have hp : (s_l z).getD c 0 < 8 := hw.2.2.1 _ (mem_of_getD hc)
  have key : ∀ n j (J : Mm), j + n = s_n z → dI I J → (∀ k, k < s_n z → ki (40 + k) = kc (s_k z k) ∧ rp (J (40 + k)) (J (40 + k + 20)) (s_f z k) (if k < j then atc z (c + 1) k else atc z c k)) → wp_X9_missesOfAll_4 ki (s_n z) Post (n + 1) (nI ((s_l z).getD c 0)) (nI (mis z (c + 1) j - mis z c j)) (nI j) J := by
    intro n
    induction n with
    | zero =>
      intro j J hj hdj hr
      unfold wp_X9_missesOfAll_4
      rw [hdj 0 (by decide)]
      refine t_le (s_n z) j h8 rfl (by omega) (by omega) (fun _ => ?_) (fun q => by omega)
      have : j = s_n z := by omega
      subst this
      refine h J hdj (fun k hk => ?_)
      have := hr k hk
      rw [if_pos hk] at this; exact this
    | succ n ih =>
      intro j J hj hdj hr
      unfold wp_X9_missesOfAll_4
      rw [hdj 0 (by decide)]
      refine t_le (s_n z) j h8 rfl (by omega) (by omega) (fun q => by omega) (fun q => ?_)
      refine ⟨vp_in_nI q (by omega), ?_⟩
      rw [nI_clamp (by omega)]
      obtain ⟨hki, hrj⟩ := hr j q
      rw [if_neg (Nat.lt_irrefl j)] at hrj
      obtain ⟨k3, f1, f5⟩ := hw.2.2.2.2.1 j q
      refine P_serve k3 hki hrj (atc_ok hw q) (by omega) f1 hp (fun J' hfr hr' => ?_)
      have hm1 := mis_mono hc j
      have hnext : ∀ v : Nat, mis z (c + 1) j - mis z c j + v = mis z (c + 1) (j + 1) - mis z c (j + 1) → wp_X9_missesOfAll_4 ki (s_n z) Post (n + 1) (nI ((s_l z).getD c 0)) (nI (mis z (c + 1) j - mis z c j) + nI v) (nI j + 1) J' := by
        intro v hv
        rw [nI_add, hv, show nI j + 1 = nI (j + 1) from nI_1 j]
        refine ih (j + 1) J' (by omega) (hdj.tr (dI.of (by omega) hfr)) (fun k hk => ?_)
        by_cases hkj : k = j
        · subst hkj
          rw [if_pos (by omega), atc_succ hc]
          exact ⟨hki, hr'⟩
        · rw [hfr (40 + k) (by omega) (by omega), hfr (40 + k + 20) (by omega) (by omega)]
          have := hr k hk
          by_cases hlt : k < j
          · rw [if_pos hlt] at this; rw [if_pos (by omega)]; exact this
          · rw [if_neg hlt] at this; rw [if_neg (by omega)]; exact this
      have hmm : (stp (s_k z j) (s_f z j) (atc z c j) ((s_l z).getD c 0)).2.2 = (atc z c j).2.2 + (if (s_l z).getD c 0 ∈ (atc z c j).1 then 0 else 1) := stp_m
      by_cases hm : (s_l z).getD c 0 ∈ (atc z c j).1
      · rw [if_pos hm, if_neg (by decide)]
        unfold wp_X9_missesOfAll_31
        rw [if_pos hm] at hmm
        refine hnext 0 ?_
        show _ = (mis z (c + 1) j + (atc z (c + 1) j).2.2) - (mis z c j + (atc z c j).2.2)
        rw [atc_succ hc]; omega
      · rw [if_neg hm, if_pos rfl]
        unfold wp_X9_missesOfAll_31
        rw [if_neg hm] at hmm
        refine hnext 1 ?_
        show _ = (mis z (c + 1) j + (atc z (c + 1) j).2.2) - (mis z c j + (atc z c j).2.2)
        rw [atc_succ hc]; omega
  unfold wp_X9_missesOfAll
  refine ⟨s_n z + 1, key (s_n z) 0 I (by omega) dI.rf (fun k hk => ?_)⟩
  rw [if_neg (Nat.not_lt_zero _)]; exact hd k hk
theorem s9_come (hw : wfS z) (hv : CV ki z I) (h : ∀ I', FC I I' → CV ki (u_come z x).2 I' → Post (u_come z x).1 I') : wp_X9_come ki (s_n z) x I Post := by
  have hn := hw.1
  have hl := hw.2.1
  have hc := hw.2.2.2.1
  unfold wp_X9_come
  unfold u_come at h
  refine w9 (a := 1) (b := 25) (by decide) (by decide) ?_
  rw [ite01]
  refine t_if (fun hx => ?_) (fun hx => ?_)
  · simp only [if_pos hx] at h
    obtain ⟨e, hx1, hx25⟩ := hx.n (by decide)
    refine w_room hw.1 hv.1 ?_
    rw [ite01]
    refine t_if (fun h0 => ?_) (fun h0 => ?_)
    · simp only [if_pos h0] at h
      have es : I 8 1 - I 0 9 = nI ((s_l z).length - s_c z) := by rw [hv.2.1.1, hv.2.2.1]; exact pk_sub hc
      rw [es]
      refine t_le x.toNatClampNeg ((s_l z).length - s_c z) e rfl (by omega) (by omega) (fun hle => ?_) (fun hle => ?_)
      · have hle' : s_c z + x.toNatClampNeg ≤ (s_l z).length := by omega
        simp only [if_pos hle'] at h
        have key : ∀ n c (J : Mm), c + n = s_c z + x.toNatClampNeg → s_c z ≤ c → dI I J → DA ki z c J → wp_X9_come_46 ki (s_n z) Post (n + 1) x (nI (mis z c (s_n z) - mis z (s_c z) (s_n z))) (nI c) J := by
          intro n
          induction n with
          | zero =>
            intro c J hcn hcc hdJ hD
            unfold wp_X9_come_46
            have e9 : J 0 9 + x = nI (s_c z + x.toNatClampNeg) := by
              rw [hdJ 0 (by decide), hv.2.2.1]
              conv => lhs; rw [e]
              exact nI_add _ _
            rw [e9]
            refine t_le (s_c z + x.toNatClampNeg) c rfl rfl (by omega) (by omega) (fun _ => ?_) (fun q => by omega)
            have : c = s_c z + x.toNatClampNeg := by omega
            subst this
            exact h _ (hdJ.fc.tr (FC.up (by decide))) (hv.d hdJ hD)
          | succ n ih =>
            intro c J hcn hcc hdJ hD
            unfold wp_X9_come_46
            have e9 : J 0 9 + x = nI (s_c z + x.toNatClampNeg) := by
              rw [hdJ 0 (by decide), hv.2.2.1]
              conv => lhs; rw [e]
              exact nI_add _ _
            rw [e9]
            refine t_le (s_c z + x.toNatClampNeg) c rfl rfl (by omega) (by omega) (fun q => by omega) (fun q => ?_)
            refine ⟨vp_in_nI (by omega) (by decide), ?_⟩
            rw [nI_clamp (by omega), hdJ 9 (by decide), hv.2.1.2 c (by omega)]
            refine P_all hw (by rw [hdJ 0 (by decide)]; exact hv.1) (by omega) hD (fun J' hd' hD' => ?_)
            have h1 := mis_mono2 (z := z) (c := s_c z) (c - s_c z) (by omega) (s_n z)
            rw [show s_c z + (c - s_c z) = c by omega] at h1
            have h2 := mis_mono (z := z) (c := c) (by omega) (s_n z)
            rw [nI_add, show mis z c (s_n z) - mis z (s_c z) (s_n z) + (mis z (c + 1) (s_n z) - mis z c (s_n z)) = mis z (c + 1) (s_n z) - mis z (s_c z) (s_n z) by omega, show nI c + 1 = nI (c + 1) from nI_1 c]
            exact ih (c + 1) J' (by omega) (by omega) (hdJ.tr hd') hD'
        have k0 := key x.toNatClampNeg (s_c z) I (by omega) (Nat.le_refl _) dI.rf (fun k hk => hv.2.2.2.1 k hk)
        rw [Nat.sub_self] at k0
        rw [hv.2.2.1]
        exact ⟨_, k0⟩
      · simp only [if_neg (show ¬ s_c z + x.toNatClampNeg ≤ (s_l z).length by omega)] at h; exact h I FC.rf hv
    · simp only [if_neg h0] at h; exact h I FC.rf hv
  · simp only [if_neg hx] at h; exact h I FC.rf hv
theorem M_sofar {J : Mm} (hw : wfS z) (hv : MV z J) (h : ∀ J', SM J J' → Post (nI (mis z (s_c z) (s_n z))) J') : wp_X10_missesSoFar J Post := by
  have hn := hw.1
  have key : ∀ n j (J' : Mm), j + n = s_n z → SM J J' → wp_X10_missesSoFar_4 Post (n + 1) (nI (mis z (s_c z) j)) (nI j) J' := by
    intro n
    induction n with
    | zero =>
      intro j J' hj hs
      have hv' := hv.sm hs
      unfold wp_X10_missesSoFar_4
      refine t_le (s_n z) j hv'.1 rfl (by omega) (by omega) (fun _ => ?_) (fun q => by omega)
      have : j = s_n z := by omega
      subst this
      exact h J' hs
    | succ n ih =>
      intro j J' hj hs
      have hv' := hv.sm hs
      unfold wp_X10_missesSoFar_4
      refine t_le (s_n z) j hv'.1 rfl (by omega) (by omega) (fun q => by omega) (fun q => ?_)
      refine M_now hw hv' (x := nI j) (InR.of (Nat.zero_le _) q (by omega)) (fun J'' hs' hr => ?_)
      rw [nI_clamp (by omega)] at hr
      rw [hr.2.2.2.2.1, nI_add, show nI j + 1 = nI (j + 1) from nI_1 j]
      exact ih (j + 1) J'' (by omega) (hs.tr hs')
  unfold wp_X10_missesSoFar
  exact ⟨_, key (s_n z) 0 J (by omega) SM.rf⟩
theorem s10_come (hw : wfS z) (hv : MV z I) (h : ∀ I', FM I I' → MV (u_come z x).2 I' → Post (u_come z x).1 I') : wp_X10_come x I Post := by
  have hn := hw.1
  have hl := hw.2.1
  have hc := hw.2.2.2.1
  unfold wp_X10_come
  unfold u_come at h
  refine w10 (a := 1) (b := 25) (by decide) (by decide) ?_
  rw [ite01]
  refine t_if (fun hx => ?_) (fun hx => ?_)
  · simp only [if_pos hx] at h
    obtain ⟨e, hx1, hx25⟩ := hx.n (by decide)
    refine m_room0 hw.1 hv.1 (fun h0 => ?_) (fun h0 => ?_)
    · simp only [if_neg h0] at h; exact h I FM.rf hv
    · simp only [if_pos h0] at h
      have es : ∀ J : Mm, J 100 3 = nI (s_c z) → J 100 3 + x = nI (s_c z + x.toNatClampNeg) := fun J hJ => by
        rw [hJ]
        conv => lhs; rw [e]
        exact nI_add _ _
      rw [es I hv.2.2.1]
      refine t_le (s_c z + x.toNatClampNeg) (s_l z).length rfl hv.2.1.1 (by omega) (by omega) (fun hle => ?_) (fun hle => ?_)
      · simp only [if_pos hle] at h
        refine M_sofar hw hv (fun J hs => ?_)
        have hvJ := hv.sm hs
        rw [es J hvJ.2.2.1]
        have hv2 := hvJ.c (c := s_c z + x.toNatClampNeg)
        have hw2 : wfS (zc z (s_c z + x.toNatClampNeg)) := by
          obtain ⟨h1, h2, h3, h4, h5, h6, h7, h8, h9⟩ := hw
          exact ⟨h1, h2, h3, hle, h5, h6, h7, h8, h9⟩
        refine M_sofar hw2 hv2 (fun J' hs' => ?_)
        have hm : ∀ c j, mis (zc z (s_c z + x.toNatClampNeg)) c j = mis z c j := by
          intro c j
          induction j with
          | zero => rfl
          | succ j ih => show mis (zc z _) c j + _ = mis z c j + _; rw [ih]; rfl
        rw [hm]
        show Post (nI (mis z (s_c z + x.toNatClampNeg) (s_n z)) - nI (mis z (s_c z) (s_n z))) J'
        rw [pk_sub (mis_mono2 x.toNatClampNeg hle (s_n z))]
        exact h J' (hs.fm.tr ((FM.up (by decide)).tr hs'.fm)) (hv2.sm hs')
      · simp only [if_neg (Nat.not_le.mpr hle)] at h; exact h I FM.rf hv
  · simp only [if_neg hx] at h; exact h I FM.rf hv
theorem wf_come (hw : wfS z) : wfS (u_come z x).2 := by
  unfold u_come
  by_cases hx : InR x 1 25
  · rw [if_pos hx]
    by_cases h0 : 0 < s_n z
    · rw [if_pos h0]
      by_cases hle : s_c z + x.toNatClampNeg ≤ (s_l z).length
      · rw [if_pos hle]
        obtain ⟨h1, h2, h3, h4, h5, h6, h7, h8, h9⟩ := hw
        exact ⟨h1, h2, h3, hle, h5, h6, h7, h8, h9⟩
      · rw [if_neg hle]; exact hw
    · rw [if_neg h0]; exact hw
  · rw [if_neg hx]; exact hw
end SP4
