/-! WHAT EACH CALL ANSWERS AND CHANGES (3): tell, tally, as, anew, build, come -/
def tr4 (t : Int32) (b : Int32) : Int32 := ((31 : Int32) * t) + b
def u_tell (z : St) (x : Int32) : Int32 × St := if InR x 0 (s_n z) then (if s_k z x.toNatClampNeg = 0 then (nI (s_f z x.toNatClampNeg), zx z (tr4 (s_x z) 1)) else if s_k z x.toNatClampNeg = 1 then (nI (s_f z x.toNatClampNeg) + 100, zx z (tr4 (tr4 (s_x z) 2) 1)) else (nI (s_f z x.toNatClampNeg) + 100 + nI (s_f z x.toNatClampNeg), zx z (tr4 (tr4 (tr4 (tr4 (s_x z) 3) 2) 1) 1))) else (-1, z)
def u_tally (z : St) (x : Int32) : Int32 × St := if InR x 0 (s_n z) then (if s_k z x.toNatClampNeg = 2 then (60, zx z (tr4 (s_x z) 5)) else (nI (now z x.toNatClampNeg).2.2, zx z (tr4 (s_x z) 4))) else (-1, z)
def u_as (z : St) (x y : Int32) : Int32 × St := if InR x 0 (s_n z) then (if InR y 0 3 then (if y.toNatClampNeg ≤ s_k z x.toNatClampNeg then (1, zt z 0) else (-12, zt z 2)) else (-2, zt z 0)) else (-1, zt z 0)
theorem ff_two : ∀ f, f ≤ 5 → (2 : Int32) * nI f + 100 = nI f + 100 + nI f := by decide +kernel
section SP3
variable {ki : Nat → Nat} {z : St} {I : Mm} {x y w : Int32} {Post : Int32 → Mm → Prop}
theorem s9_tell (hw : wfS z) (hv : CV ki z I) (h : ∀ I', FC I I' → CV ki (u_tell z x).2 I' → Post (u_tell z x).1 I') : wp_X9_tell ki (s_n z) x I Post := by
  unfold wp_X9_tell
  unfold u_tell at h
  refine w_isDesk hw.1 hv.1 ?_
  rw [ite01]
  refine t_if (fun hx => ?_) (fun hx => ?_)
  · simp only [if_pos hx] at h
    have hn := hw.1
    obtain ⟨e, -, hk⟩ := hx.n (by omega)
    obtain ⟨ok, k3, f1, f5⟩ := wf_now hw hk
    obtain ⟨hki, hr⟩ := hv.2.2.2.1 _ hk
    refine ⟨vp_n e hk (by omega), ?_⟩
    have ex : I 16 0 = s_x z := hv.2.2.2.2.2.2.2.1
    have d16 : 40 + x.toNatClampNeg ≠ 16 := by omega
    unfold wpv_telling
    rw [hki]
    generalize hkk : s_k z x.toNatClampNeg = k at *
    rcases (show k = 0 ∨ k = 1 ∨ k = 2 by omega) with rfl | rfl | rfl
    · rw [if_pos (show kc 0 = 3 from rfl)]
      unfold wp_X3_telling wp_X3_queueTelling wp_X8_leave
      try dsimp only
      rw [up2_oc d16, hr.1, ex]
      exact h _ (FC.up (by decide)) hv.x
    · rw [if_neg (by decide), if_pos (show kc 1 = 0 from rfl)]
      unfold wp_X0_telling wp_X3_queueTelling wp_X8_leave
      try dsimp only
      rw [up2_oc d16, up2_oc d16, hr.1, ex, up2_c, upd_s]
      exact h _ ((FC.up (by decide)).tr (FC.up (by decide))) (CV.x (z := zx z (tr4 (s_x z) 2)) hv.x)
    · rw [if_neg (by decide), if_neg (by decide)]
      unfold wp_X5_telling wp_X0_telling wp_X3_queueTelling wp_X8_leave
      try dsimp only
      simp only [up2_oc d16]
      rw [hr.1, ex, up2_c, upd_s, up2_c, upd_s, up2_c, upd_s]
      exact h _ ((FC.up (by decide)).tr ((FC.up (by decide)).tr ((FC.up (by decide)).tr (FC.up (by decide))))) (CV.x (z := zx z (tr4 (tr4 (tr4 (s_x z) 3) 2) 1)) (CV.x (z := zx z (tr4 (tr4 (s_x z) 3) 2)) (CV.x (z := zx z (tr4 (s_x z) 3)) hv.x)))
  · simp only [if_neg hx] at h; exact h I FC.rf hv
theorem s10_tell (hw : wfS z) (hv : MV z I) (h : ∀ I', FM I I' → MV (u_tell z x).2 I' → Post (u_tell z x).1 I') : wp_X10_tell x I Post := by
  unfold wp_X10_tell
  unfold u_tell at h
  refine m_noDesk hw.1 hv.1 ?_
  rw [ite10]
  refine t_if (fun hx => ?_) (fun hx => ?_)
  · simp only [if_pos hx] at h
    have hn := hw.1
    obtain ⟨e, -, hk⟩ := hx.n (by omega)
    obtain ⟨ok, k3, f1, f5⟩ := wf_now hw hk
    obtain ⟨hki, hf⟩ := hv.2.2.2.1 _ hk
    have hin : vp_in x 4 := vp_n e (by omega) (by decide)
    refine ⟨hin, ?_⟩
    have ex : I 100 29 = s_x z := hv.2.2.2.2.2.2.2
    have o5 : ∀ (J : Mm) (v : Int32), up2 J 100 29 v 105 = J 105 := fun J v => up2_oc (by decide)
    rw [hki]
    generalize hkk : s_k z x.toNatClampNeg = k at *
    rcases (show k = 0 ∨ k = 1 ∨ k = 2 by omega) with rfl | rfl | rfl
    · rw [if_neg (by decide)]
      unfold wp_X10_tell_27
      rw [if_pos (by decide)]
      unfold wp_X10_tell_36 wp_X10_traced
      try dsimp only
      rw [if_neg (by decide)]
      unfold wp_X10_tell_51
      refine ⟨hin, ?_⟩
      rw [if_pos (show nI 0 = 0 from rfl), o5, hf, ex]
      exact h _ (FM.up (by decide)) hv.x
    · rw [if_neg (by decide)]
      unfold wp_X10_tell_27
      rw [if_neg (by decide)]
      unfold wp_X10_traced wp_X10_tell_36 wp_X10_traced
      try dsimp only
      rw [if_neg (by decide)]
      unfold wp_X10_tell_51
      refine ⟨hin, ?_⟩
      rw [if_neg (by decide), if_pos (show nI 1 = 1 from rfl), o5, o5, hf, ex, up2_c, upd_s]
      exact h _ ((FM.up (by decide)).tr (FM.up (by decide))) (MV.x (z := zx z (tr4 (s_x z) 2)) hv.x)
    · rw [if_pos (show nI 2 = 2 from rfl)]
      unfold wp_X10_traced wp_X10_tell_27
      try dsimp only
      rw [if_neg (by decide)]
      unfold wp_X10_traced wp_X10_tell_36 wp_X10_traced
      try dsimp only
      rw [if_pos (show nI 2 = 2 from rfl)]
      unfold wp_X10_tell_51
      refine ⟨hin, ?_⟩
      rw [if_neg (by decide), if_neg (by decide), o5, o5, o5, o5, hf, ff_two _ f5, ex, up2_c, upd_s, up2_c, upd_s, up2_c, upd_s]
      exact h _ ((FM.up (by decide)).tr ((FM.up (by decide)).tr ((FM.up (by decide)).tr (FM.up (by decide))))) (MV.x (z := zx z (tr4 (tr4 (tr4 (s_x z) 3) 2) 1)) (MV.x (z := zx z (tr4 (tr4 (s_x z) 3) 2)) (MV.x (z := zx z (tr4 (s_x z) 3)) hv.x)))
  · simp only [if_neg hx] at h; exact h I FM.rf hv
theorem wf_tell (hw : wfS z) : wfS (u_tell z x).2 := by
  unfold u_tell
  by_cases hx : InR x 0 (s_n z)
  · rw [if_pos hx]
    by_cases h0 : s_k z x.toNatClampNeg = 0
    · rw [if_pos h0]; exact hw
    · rw [if_neg h0]
      by_cases h1 : s_k z x.toNatClampNeg = 1
      · rw [if_pos h1]; exact hw
      · rw [if_neg h1]; exact hw
  · rw [if_neg hx]; exact hw
theorem s9_tally (hw : wfS z) (hv : CV ki z I) (h : ∀ I', FC I I' → CV ki (u_tally z x).2 I' → Post (u_tally z x).1 I') : wp_X9_tally ki (s_n z) x I Post := by
  unfold wp_X9_tally
  unfold u_tally at h
  refine w_isDesk hw.1 hv.1 ?_
  rw [ite01]
  refine t_if (fun hx => ?_) (fun hx => ?_)
  · simp only [if_pos hx] at h
    have hn := hw.1
    obtain ⟨e, -, hk⟩ := hx.n (by omega)
    obtain ⟨ok, k3, f1, f5⟩ := wf_now hw hk
    obtain ⟨hki, hr⟩ := hv.2.2.2.1 _ hk
    refine ⟨vp_n e hk (by omega), ?_⟩
    have ex : I 16 0 = s_x z := hv.2.2.2.2.2.2.2.1
    have d16 : 40 + x.toNatClampNeg ≠ 16 := by omega
    have c3 : s_k z x.toNatClampNeg ≠ 2 → wp_X3_counted ki (40 + x.toNatClampNeg) I (fun r4 J5 => Post r4 J5) := by
      intro h2
      simp only [if_neg h2] at h
      unfold wp_X3_counted wp_X8_leave
      try dsimp only
      rw [up2_oc d16, hr.2.2.2.1, ex]
      exact h _ (FC.up (by decide)) hv.x
    unfold wpv_counted
    rw [hki]
    by_cases h2 : s_k z x.toNatClampNeg = 2
    · rw [h2, if_neg (by decide), if_neg (by decide)]
      simp only [if_pos h2] at h
      unfold wp_X5_counted wp_X8_leave
      try dsimp only
      rw [ex]
      exact h _ (FC.up (by decide)) hv.x
    · rcases (show s_k z x.toNatClampNeg = 0 ∨ s_k z x.toNatClampNeg = 1 by omega) with q | q
      · rw [q, if_pos (show kc 0 = 3 from rfl)]; exact c3 h2
      · rw [q, if_neg (by decide), if_pos (show kc 1 = 0 from rfl)]; exact c3 h2
  · simp only [if_neg hx] at h; exact h I FC.rf hv
theorem s10_tally (hw : wfS z) (hv : MV z I) (h : ∀ I', FM I I' → MV (u_tally z x).2 I' → Post (u_tally z x).1 I') : wp_X10_tally x I Post := by
  unfold wp_X10_tally
  unfold u_tally at h
  refine m_noDesk hw.1 hv.1 ?_
  rw [ite10]
  refine t_if (fun hx => ?_) (fun hx => ?_)
  · simp only [if_pos hx] at h
    have hn := hw.1
    obtain ⟨e, -, hk⟩ := hx.n (by omega)
    obtain ⟨ok, k3, f1, f5⟩ := wf_now hw hk
    obtain ⟨hki, hf⟩ := hv.2.2.2.1 _ hk
    have hin : vp_in x 4 := vp_n e (by omega) (by decide)
    refine ⟨hin, ?_⟩
    have ex : I 100 29 = s_x z := hv.2.2.2.2.2.2.2
    have go : ∀ b : Int32, (∀ I', FM I I' → MV (zx z (tr4 (s_x z) b)) I' → (if s_k z x.toNatClampNeg = 2 then Post 60 I' else Post (nI (now z x.toNatClampNeg).2.2) I')) → wp_X10_tally_26 Post x b I := by
      intro b hb
      unfold wp_X10_tally_26 wp_X10_traced
      try dsimp only
      rw [ex]
      have hv1 : MV (zx z (tr4 (s_x z) b)) (up2 I 100 29 (tr4 (s_x z) b)) := hv.x
      refine M_now (z := zx z (tr4 (s_x z) b)) hw hv1 hx (fun I' hs hr => ?_)
      have hv2 := hv1.sm hs
      have := hb I' ((FM.up (by decide)).tr hs.fm) hv2
      refine ⟨hin, ?_⟩
      rw [(hv2.2.2.2.1 _ hk).1]
      refine t_eq (s_k z x.toNatClampNeg) 2 rfl rfl (by omega) (by decide) (fun h2 => ?_) (fun h2 => ?_)
      · rw [if_pos h2] at this; exact this
      · rw [if_neg h2] at this; rw [hr.2.2.2.2.1]; exact this
    rw [hki]
    refine t_eq (s_k z x.toNatClampNeg) 2 rfl rfl (by omega) (by decide) (fun h2 => ?_) (fun h2 => ?_)
    · simp only [if_pos h2] at h
      exact go 5 (fun I' a b => by rw [if_pos h2]; exact h I' a b)
    · simp only [if_neg h2] at h
      exact go 4 (fun I' a b => by rw [if_neg h2]; exact h I' a b)
  · simp only [if_neg hx] at h; exact h I FM.rf hv
theorem wf_tally (hw : wfS z) : wfS (u_tally z x).2 := by
  unfold u_tally
  by_cases hx : InR x 0 (s_n z)
  · rw [if_pos hx]
    by_cases h0 : s_k z x.toNatClampNeg = 2
    · rw [if_pos h0]; exact hw
    · rw [if_neg h0]; exact hw
  · rw [if_neg hx]; exact hw
theorem s9_as (hw : wfS z) (hv : CV ki z I) (h : ∀ I', FC I I' → CV ki (u_as z x y).2 I' → Post (u_as z x y).1 I') : wp_X9_as ki (s_n z) x y I Post := by
  unfold wp_X9_as
  unfold u_as at h
  refine w_isDesk hw.1 hv.1 ?_
  rw [ite01]
  refine t_if (fun hx => ?_) (fun hx => ?_)
  · simp only [if_pos hx] at h
    have hn := hw.1
    obtain ⟨e, -, hk⟩ := hx.n (by omega)
    obtain ⟨ok, k3, f1, f5⟩ := wf_now hw hk
    obtain ⟨hki, hr⟩ := hv.2.2.2.1 _ hk
    refine w9 (a := 0) (b := 3) (by decide) (by decide) ?_
    rw [ite01]
    refine t_if (fun hy => ?_) (fun hy => ?_)
    · simp only [if_pos hy] at h
      obtain ⟨ey, -, hy3⟩ := hy.n (by decide)
      refine ⟨vp_n e hk (by omega), ?_⟩
      have yes : y.toNatClampNeg ≤ s_k z x.toNatClampNeg → (if (1 : Int32) = 0 then wp_X9_faulted ki (s_n z) 2 I (fun r8 J9 => Post r8 J9) else Post 1 (up2 I 0 10 0)) := fun q => by
        rw [if_neg (by decide)]
        simp only [if_pos q] at h
        exact h _ (FC.up (by decide)) hv.t
      have no : ¬ y.toNatClampNeg ≤ s_k z x.toNatClampNeg → (if (0 : Int32) = 0 then wp_X9_faulted ki (s_n z) 2 I (fun r8 J9 => Post r8 J9) else Post 1 (up2 I 0 10 0)) := fun q => by
        rw [if_pos rfl]
        simp only [if_neg q] at h
        unfold wp_X9_faulted
        try dsimp only
        exact h _ (FC.up (by decide)) hv.t
      unfold wp_X9_isOfKind
      rw [hki]
      generalize hyy : y.toNatClampNeg = j at *
      generalize hkk : s_k z x.toNatClampNeg = k at *
      rcases (show j = 0 ∨ j = 1 ∨ j = 2 by omega) with rfl | rfl | rfl
      · rw [if_pos (show y = 0 from ey)]; exact yes (Nat.zero_le _)
      · rw [if_neg (show ¬ y = 0 by rw [ey]; decide), if_pos (show y = 1 from ey)]
        rcases (show k = 0 ∨ k = 1 ∨ k = 2 by omega) with rfl | rfl | rfl
        · rw [if_pos (show kc 0 = 3 from rfl)]; exact ⟨by decide, no (by decide)⟩
        · rw [if_neg (show ¬ kc 1 = 3 by decide)]; exact ⟨by decide, yes (by decide)⟩
        · rw [if_neg (show ¬ kc 2 = 3 by decide)]; exact ⟨by decide, yes (by decide)⟩
      · rw [if_neg (show ¬ y = 0 by rw [ey]; decide), if_neg (show ¬ y = 1 by rw [ey]; decide)]
        rcases (show k = 0 ∨ k = 1 ∨ k = 2 by omega) with rfl | rfl | rfl
        · rw [if_neg (show ¬ kc 0 = 5 by decide)]; exact ⟨by decide, no (by decide)⟩
        · rw [if_neg (show ¬ kc 1 = 5 by decide)]; exact ⟨by decide, no (by decide)⟩
        · rw [if_pos (show kc 2 = 5 from rfl)]; exact ⟨by decide, yes (by decide)⟩
    · simp only [if_neg hy] at h
      unfold wp_X9_refused
      try dsimp only
      exact h _ (FC.up (by decide)) hv.t
  · simp only [if_neg hx] at h
    unfold wp_X9_refused
    try dsimp only
    exact h _ (FC.up (by decide)) hv.t
theorem s10_as (hw : wfS z) (hv : MV z I) (h : ∀ I', FM I I' → MV (u_as z x y).2 I' → Post (u_as z x y).1 I') : wp_X10_as x y I Post := by
  unfold wp_X10_as
  unfold u_as at h
  refine m_noDesk hw.1 hv.1 ?_
  rw [ite10]
  refine t_if (fun hx => ?_) (fun hx => ?_)
  · simp only [if_pos hx] at h
    have hn := hw.1
    obtain ⟨e, -, hk⟩ := hx.n (by omega)
    obtain ⟨ok, k3, f1, f5⟩ := wf_now hw hk
    obtain ⟨hki, hf⟩ := hv.2.2.2.1 _ hk
    refine w10 (a := 0) (b := 3) (by decide) (by decide) ?_
    rw [ite01]
    refine t_if (fun hy => ?_) (fun hy => ?_)
    · simp only [if_pos hy] at h
      obtain ⟨ey, -, hy3⟩ := hy.n (by decide)
      refine ⟨vp_n e (by omega) (by decide), ?_⟩
      refine t_lt (s_k z x.toNatClampNeg) y.toNatClampNeg hki ey (by omega) (by omega) (fun q => ?_) (fun q => ?_)
      · simp only [if_neg (Nat.not_le.mpr q)] at h
        unfold wp_X10_failed
        try dsimp only
        exact h _ (FM.up (by decide)) hv.t
      · simp only [if_pos q] at h
        unfold wp_X10_refused
        try dsimp only
        exact h _ (FM.up (by decide)) hv.t
    · simp only [if_neg hy] at h
      unfold wp_X10_refused
      try dsimp only
      exact h _ (FM.up (by decide)) hv.t
  · simp only [if_neg hx] at h
    unfold wp_X10_refused
    try dsimp only
    exact h _ (FM.up (by decide)) hv.t
theorem wf_as (hw : wfS z) : wfS (u_as z x y).2 := by
  unfold u_as
  by_cases hx : InR x 0 (s_n z)
  · rw [if_pos hx]
    by_cases hy : InR y 0 3
    · rw [if_pos hy]
      by_cases q : y.toNatClampNeg ≤ s_k z x.toNatClampNeg
      · rw [if_pos q]; exact hw
      · rw [if_neg q]; exact hw
    · rw [if_neg hy]; exact hw
  · rw [if_neg hx]; exact hw
end SP3
