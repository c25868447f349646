/-! WHAT EACH CALL ANSWERS (1): line, lies, ofDesk, trace, fault: s9_.. of the class, s10_.. of the model, one value v_.. -/
def v_line (z : St) (x : Int32) : Int32 := if InR x 0 (s_l z).length then nI ((s_l z).getD x.toNatClampNeg 0) else -1
def v_lies (z : St) (x y : Int32) : Int32 := if InR x 0 (s_n z) then (if InR y 0 5 then (if y.toNatClampNeg < (now z x.toNatClampNeg).1.length then nI ((now z x.toNatClampNeg).1.getD y.toNatClampNeg 0) else -9) else -2) else -1
def v_ofDesk (z : St) (x y : Int32) : Int32 := if InR x 0 (s_n z) then (if y = 0 then nI (s_k z x.toNatClampNeg) else if y = 1 then nI (s_f z x.toNatClampNeg) else if y = 2 then nI (setL (now z x.toNatClampNeg).1) else if y = 3 then nI (now z x.toNatClampNeg).2.2 else if y = 4 then goV (s_k z x.toNatClampNeg) (s_f z x.toNatClampNeg) (now z x.toNatClampNeg) else if y = 5 then nI (now z x.toNatClampNeg).2.1 else -2) else -1
section SP1
variable {ki : Nat → Nat} {z : St} {I : Mm} {x y : Int32} {Post : Int32 → Mm → Prop}
theorem s9_line {nd : Nat} (hw : wfS z) (hv : CV ki z I) (h : Post (v_line z x) I) : wp_X9_line ki nd x I Post := by
  unfold wp_X9_line
  refine w_has hw.2.1 hv.2.1.1 ?_
  rw [ite01]
  unfold v_line at h
  refine t_if (fun hx => ?_) (fun hx => ?_)
  · obtain ⟨e, -, hk⟩ := hx.n (by have := hw.2.1; omega)
    rw [if_pos hx] at h
    refine ⟨vp_n e (by have := hw.2.1; omega) (by decide), ?_⟩
    rw [hv.2.1.2 _ hk]; exact h
  · rw [if_neg hx] at h; exact h
theorem s10_line (hw : wfS z) (hv : MV z I) (h : Post (v_line z x) I) : wp_X10_line x I Post := by
  unfold wp_X10_line
  refine m_noAsk hw.2.1 hv.2.1.1 ?_
  rw [ite10]
  unfold v_line at h
  refine t_if (fun hx => ?_) (fun hx => ?_)
  · obtain ⟨e, -, hk⟩ := hx.n (by have := hw.2.1; omega)
    rw [if_pos hx] at h
    refine ⟨vp_n e (by have := hw.2.1; omega) (by decide), ?_⟩
    rw [hv.2.1.2 _ hk]; exact h
  · rw [if_neg hx] at h; exact h
theorem s9_lies (hw : wfS z) (hv : CV ki z I) (h : Post (v_lies z x y) I) : wp_X9_lies ki (s_n z) x y I Post := by
  unfold wp_X9_lies
  refine w_isDesk hw.1 hv.1 ?_
  rw [ite01]
  unfold v_lies at h
  refine t_if (fun hx => ?_) (fun hx => ?_)
  · have hn := hw.1
    obtain ⟨e, -, hk⟩ := hx.n (by omega)
    obtain ⟨ok, k3, f1, f5⟩ := wf_now hw hk
    have hr := (hv.2.2.2.1 _ hk).2
    have hlen := ok.2.2.1
    rw [if_pos hx] at h
    refine w9 (a := 0) (b := 5) (by decide) (by decide) ?_
    rw [ite01]
    refine t_if (fun hy => ?_) (fun hy => ?_)
    · obtain ⟨ey, -, hy5⟩ := hy.n (by decide)
      rw [if_pos hy] at h
      refine ⟨vp_n e hk (by omega), ?_⟩
      refine t_le (now z x.toNatClampNeg).1.length y.toNatClampNeg hr.2.1 ey (by omega) (by omega) (fun hl => ?_) (fun hl => ?_)
      · rw [if_neg (by omega)] at h; exact h
      · rw [if_pos hl] at h
        refine ⟨vp_n e hk (by omega), vp_n ey (by omega) (by decide), ?_⟩
        rw [hr.2.2.2.2 _ hl]; exact h
    · rw [if_neg hy] at h; exact h
  · rw [if_neg hx] at h; exact h
theorem s10_lies (hw : wfS z) (hv : MV z I) (h : ∀ I', SM I I' → Post (v_lies z x y) I') : wp_X10_lies x y I Post := by
  unfold wp_X10_lies
  refine m_noDesk hw.1 hv.1 ?_
  rw [ite10]
  unfold v_lies at h
  refine t_if (fun hx => ?_) (fun hx => ?_)
  · have hn := hw.1
    obtain ⟨e, -, hk⟩ := hx.n (by omega)
    obtain ⟨ok, k3, f1, f5⟩ := wf_now hw hk
    have hlen := ok.2.2.1
    simp only [if_pos hx] at h
    refine w10 (a := 0) (b := 5) (by decide) (by decide) ?_
    rw [ite01]
    refine t_if (fun hy => ?_) (fun hy => ?_)
    · obtain ⟨ey, -, hy5⟩ := hy.n (by decide)
      simp only [if_pos hy] at h
      refine M_now hw hv hx (fun I' hs hr => ?_)
      refine t_le (now z x.toNatClampNeg).1.length y.toNatClampNeg hr.2.2.1 ey (by omega) (by omega) (fun hl => ?_) (fun hl => ?_)
      · have h := h I' hs
        rw [if_neg (by omega)] at h; exact h
      · have h := h I' hs
        rw [if_pos hl] at h
        refine ⟨vp_n ey (by omega) (by decide), ?_⟩
        rw [hr.2.2.2.2.2 _ hl]; exact h
    · simp only [if_neg hy] at h; exact h I SM.rf
  · simp only [if_neg hx] at h; exact h I SM.rf
theorem s9_ofDesk (hw : wfS z) (hv : CV ki z I) (h : Post (v_ofDesk z x y) I) : wp_X9_ofDesk ki (s_n z) x y I Post := by
  unfold wp_X9_ofDesk
  refine w_isDesk hw.1 hv.1 ?_
  rw [ite01]
  unfold v_ofDesk at h
  refine t_if (fun hx => ?_) (fun hx => ?_)
  · have hn := hw.1
    obtain ⟨e, -, hk⟩ := hx.n (by omega)
    obtain ⟨ok, k3, f1, f5⟩ := wf_now hw hk
    obtain ⟨hki, hr⟩ := hv.2.2.2.1 _ hk
    rw [if_pos hx] at h
    refine ⟨vp_n e hk (by omega), ?_⟩
    refine t_if (fun h0 => ?_) (fun h0 => t_if (fun h1 => ?_) (fun h1 => t_if (fun h2 => ?_) (fun h2 => t_if (fun h3 => ?_) (fun h3 => t_if (fun h4 => ?_) (fun h4 => t_if (fun h5 => ?_) (fun h5 => ?_))))))
    · rw [if_pos h0] at h; exact p_kind k3 hki h
    · rw [if_neg h0, if_pos h1] at h; rw [hr.1]; exact h
    · rw [if_neg h0, if_neg h1, if_pos h2] at h; exact P_pages hr ok (by omega) h
    · rw [if_neg h0, if_neg h1, if_neg h2, if_pos h3] at h; rw [hr.2.2.2.1]; exact h
    · rw [if_neg h0, if_neg h1, if_neg h2, if_neg h3, if_pos h4] at h; exact P_next k3 hki hr ok (by omega) f1 h
    · rw [if_neg h0, if_neg h1, if_neg h2, if_neg h3, if_neg h4, if_pos h5] at h; rw [hr.2.2.1]; exact h
    · rw [if_neg h0, if_neg h1, if_neg h2, if_neg h3, if_neg h4, if_neg h5] at h; exact h
  · rw [if_neg hx] at h; exact h
theorem s10_ofDesk (hw : wfS z) (hv : MV z I) (h : ∀ I', SM I I' → Post (v_ofDesk z x y) I') : wp_X10_ofDesk x y I Post := by
  unfold wp_X10_ofDesk
  refine m_noDesk hw.1 hv.1 ?_
  rw [ite10]
  unfold v_ofDesk at h
  refine t_if (fun hx => ?_) (fun hx => ?_)
  · have hn := hw.1
    obtain ⟨e, -, hk⟩ := hx.n (by omega)
    obtain ⟨ok, k3, f1, f5⟩ := wf_now hw hk
    simp only [if_pos hx] at h
    refine M_now hw hv hx (fun I' hs hr => ?_)
    have h := h I' hs
    have hv' := hv.sm hs
    refine t_if (fun h0 => ?_) (fun h0 => t_if (fun h1 => ?_) (fun h1 => t_if (fun h2 => ?_) (fun h2 => t_if (fun h3 => ?_) (fun h3 => t_if (fun h4 => ?_) (fun h4 => t_if (fun h5 => ?_) (fun h5 => ?_))))))
    · rw [if_pos h0] at h; exact ⟨vp_n e (by omega) (by decide), by rw [(hv'.2.2.2.1 _ hk).1]; exact h⟩
    · rw [if_neg h0, if_pos h1] at h; exact ⟨vp_n e (by omega) (by decide), by rw [(hv'.2.2.2.1 _ hk).2]; exact h⟩
    · rw [if_neg h0, if_neg h1, if_pos h2] at h; exact M_set hr ok (by omega) h
    · rw [if_neg h0, if_neg h1, if_neg h2, if_pos h3] at h; rw [hr.2.2.2.2.1]; exact h
    · rw [if_neg h0, if_neg h1, if_neg h2, if_neg h3, if_pos h4] at h; exact M_go k3 hr ok (by omega) f1 h
    · rw [if_neg h0, if_neg h1, if_neg h2, if_neg h3, if_neg h4, if_pos h5] at h; rw [hr.2.2.2.1]; exact h
    · rw [if_neg h0, if_neg h1, if_neg h2, if_neg h3, if_neg h4, if_neg h5] at h; exact h
  · simp only [if_neg hx] at h; exact h I SM.rf
theorem s9_trace {nd : Nat} (hv : CV ki z I) (h : Post (s_x z) I) : wp_X9_trace ki nd I Post := by
  unfold wp_X9_trace; rw [hv.2.2.2.2.2.2.2.1]; exact h
theorem s10_trace (hv : MV z I) (h : Post (s_x z) I) : wp_X10_trace I Post := by
  unfold wp_X10_trace; rw [hv.2.2.2.2.2.2.2]; exact h
theorem s9_fault {nd : Nat} (hv : CV ki z I) (h : Post (s_t z) I) : wp_X9_fault ki nd I Post := by
  unfold wp_X9_fault; rw [hv.2.2.2.2.2.2.1]; exact h
theorem s10_fault (hv : MV z I) (h : Post (s_t z) I) : wp_X10_fault I Post := by
  unfold wp_X10_fault; rw [hv.2.2.2.2.2.2.1]; exact h
end SP1
