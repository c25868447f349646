/-! odd, need -/
section ODD
variable {ki : Nat → Nat} {z : St} {I : Mm} {x y w : Int32} {Post : Int32 → Mm → Prop}
theorem nI_dn : ∀ f, f < 256 → nI (f + 1) + (-1) = nI f := by decide +kernel
theorem s9_odd (hw : wfS z) (hv : CV ki z I) (h : ∀ I', SC I I' → Post (v_odd z x) I') : wp_X9_odd ki (s_n z) x I Post := by
  have hn := hw.1
  unfold wp_X9_odd
  unfold v_odd at h
  refine w_isDesk hw.1 hv.1 ?_
  rw [ite01]
  refine t_if (fun hx => ?_) (fun hx => ?_)
  · simp only [if_pos hx] at h
    obtain ⟨e, -, hk⟩ := hx.n (by omega)
    rw [e]
    generalize x.toNatClampNeg = k at *
    have key : ∀ n f (J : Mm), f + n = 8 → 1 ≤ f → SC I J → (∀ I', SC I I' → Post (oddF z k n f) I') → wp_X9_odd_19 ki (s_n z) Post (n + 1) (nI k) (nI (mf z k f)) (nI f) J := by
      intro n
      induction n with
      | zero =>
        intro f J hf h1 hs hp
        unfold wp_X9_odd_19
        exact t_le 8 f rfl rfl (by omega) (by omega) (fun _ => hp J hs) (fun q => by omega)
      | succ n ih =>
        intro f J hf h1 hs hp
        unfold wp_X9_odd_19
        refine t_le 8 f rfl rfl (by omega) (by omega) (fun _ => by omega) (fun q => ?_)
        rw [show nI f + 1 = nI (f + 1) from nI_1 f]
        refine P_by hw (hv.sc hn hs) hk (by omega) (by omega) (fun J' hs' => ?_)
        have b1 := mf_le hw k f
        have b2 := mf_le hw k (f + 1)
        refine t_le (mf z k (f + 1)) (mf z k f) rfl rfl (by omega) (by omega) (fun q1 => ?_) (fun q1 => ?_)
        · refine ih (f + 1) J' (by omega) (by omega) (hs.tr hs') (fun I' hI => ?_)
          have := hp I' hI
          simp only [oddF, if_neg (show ¬ mf z k f < mf z k (f + 1) by omega)] at this
          exact this
        · have := hp J' (hs.tr hs')
          simp only [oddF, if_pos q1] at this
          exact this
    refine P_by hw hv hk (f := 1) (by omega) (by omega) (fun J hs => ?_)
    exact ⟨_, key 7 1 J (by omega) (by omega) hs h⟩
  · simp only [if_neg hx] at h; exact h I SC.rf
theorem s10_odd (hw : wfS z) (hv : MV z I) (h : ∀ I', SM I I' → Post (v_odd z x) I') : wp_X10_odd x I Post := by
  have hn := hw.1
  unfold wp_X10_odd
  unfold v_odd at h
  refine m_noDesk hw.1 hv.1 ?_
  rw [ite10]
  refine t_if (fun hx => ?_) (fun hx => ?_)
  · simp only [if_pos hx] at h
    obtain ⟨e, -, hk⟩ := hx.n (by omega)
    rw [e]
    generalize x.toNatClampNeg = k at *
    have key : ∀ f (J : Mm), f ≤ 7 → SM I J → ∀ x2, x2 = oddF z k (7 - f) (f + 1) → ∀ x3, x3 = nI f → wp_X10_odd_16 Post (f + 1) (nI k) x2 x3 J := by
      intro f
      induction f with
      | zero =>
        intro J hf hs x2 e2 x3 e3
        unfold wp_X10_odd_16
        exact t_le 0 0 e3 rfl (by omega) (by omega) (fun _ => by rw [e2]; exact h J hs) (fun q => by omega)
      | succ f ih =>
        intro J hf hs x2 e2 x3 e3
        unfold wp_X10_odd_16
        refine t_le (f + 1) 0 e3 rfl (by omega) (by omega) (fun _ => by omega) (fun q => ?_)
        subst e3
        refine M_by hw (hv.sm hs) hk (by omega) (by omega) (fun J1 hs1 => ?_)
        have hs1' := hs.tr hs1
        rw [show nI (f + 1) + 1 = nI (f + 1 + 1) from nI_1 (f + 1)]
        refine M_by hw (hv.sm hs1') hk (by omega) (by omega) (fun J2 hs2 => ?_)
        have hs2' := hs1'.tr hs2
        have b1 := mf_le hw k (f + 1)
        have b2 := mf_le hw k (f + 1 + 1)
        have ed := nI_dn f (by omega)
        have e7 : 7 - f = (7 - (f + 1)) + 1 := by omega
        refine t_le (mf z k (f + 1 + 1)) (mf z k (f + 1)) rfl rfl (by omega) (by omega) (fun q1 => ?_) (fun q1 => ?_)
        · unfold wp_X10_odd_42
          dsimp only
          rw [ed]
          refine ih J2 (by omega) hs2' _ ?_ _ rfl
          rw [e2, e7]
          simp only [oddF]
          rw [if_neg (by omega)]
        · unfold wp_X10_odd_42
          dsimp only
          rw [ed]
          refine ih J2 (by omega) hs2' _ ?_ _ rfl
          rw [e7]
          simp only [oddF]
          rw [if_pos q1]
    exact ⟨_, key 7 I (by omega) SM.rf _ rfl _ rfl⟩
  · simp only [if_neg hx] at h; exact h I SM.rf
theorem s9_need (hw : wfS z) (hv : CV ki z I) (h : ∀ I', SC I I' → Post (v_need z x y) I') : wp_X9_need ki (s_n z) x y I Post := by
  have hn := hw.1
  unfold wp_X9_need
  unfold v_need at h
  refine w_isDesk hw.1 hv.1 ?_
  rw [ite01]
  refine t_if (fun hx => ?_) (fun hx => ?_)
  · simp only [if_pos hx] at h
    obtain ⟨e, -, hk⟩ := hx.n (by omega)
    refine w9 (a := 0) (b := 25) (by decide) (by decide) ?_
    rw [ite01]
    refine t_if (fun hy => ?_) (fun hy => ?_)
    · simp only [if_pos hy] at h
      obtain ⟨ey, -, hy25⟩ := hy.n (by decide)
      rw [e, ey]
      generalize x.toNatClampNeg = k at *
      generalize y.toNatClampNeg = v at *
      have key : ∀ n f (J : Mm), f + n = 9 → 1 ≤ f → SC I J → (∀ I', SC I I' → Post (needF z k v n f) I') → wp_X9_need_25 ki (s_n z) Post (n + 1) (nI k) (nI v) (nI f) J := by
        intro n
        induction n with
        | zero =>
          intro f J hf h1 hs hp
          unfold wp_X9_need_25
          exact t_lt 8 f rfl rfl (by omega) (by omega) (fun _ => hp J hs) (fun q => by omega)
        | succ n ih =>
          intro f J hf h1 hs hp
          unfold wp_X9_need_25
          refine t_lt 8 f rfl rfl (by omega) (by omega) (fun _ => by omega) (fun q => ?_)
          refine P_by hw (hv.sc hn hs) hk (by omega) (by omega) (fun J' hs' => ?_)
          have b1 := mf_le hw k f
          refine t_lt v (mf z k f) rfl rfl (by omega) (by omega) (fun q1 => ?_) (fun q1 => ?_)
          · rw [show nI f + 1 = nI (f + 1) from nI_1 f]
            refine ih (f + 1) J' (by omega) (by omega) (hs.tr hs') (fun I' hI => ?_)
            have := hp I' hI
            simp only [needF, if_neg (show ¬ mf z k f ≤ v by omega)] at this
            exact this
          · have := hp J' (hs.tr hs')
            simp only [needF, if_pos q1] at this
            exact this
      exact ⟨_, key 8 1 I (by omega) (by omega) SC.rf h⟩
    · simp only [if_neg hy] at h; exact h I SC.rf
  · simp only [if_neg hx] at h; exact h I SC.rf
theorem s10_need (hw : wfS z) (hv : MV z I) (h : ∀ I', SM I I' → Post (v_need z x y) I') : wp_X10_need x y I Post := by
  have hn := hw.1
  unfold wp_X10_need
  unfold v_need at h
  refine m_noDesk hw.1 hv.1 ?_
  rw [ite10]
  refine t_if (fun hx => ?_) (fun hx => ?_)
  · simp only [if_pos hx] at h
    obtain ⟨e, -, hk⟩ := hx.n (by omega)
    refine w10 (a := 0) (b := 25) (by decide) (by decide) ?_
    rw [ite01]
    refine t_if (fun hy => ?_) (fun hy => ?_)
    · simp only [if_pos hy] at h
      obtain ⟨ey, -, hy25⟩ := hy.n (by decide)
      rw [e, ey]
      generalize x.toNatClampNeg = k at *
      generalize y.toNatClampNeg = v at *
      have key : ∀ f (J : Mm), f ≤ 8 → SM I J → ∀ x2, x2 = needF z k v (8 - f) (f + 1) → ∀ x3, x3 = nI f → wp_X10_need_32 Post (f + 1) (nI k) (nI v) x2 x3 J := by
        intro f
        induction f with
        | zero =>
          intro J hf hs x2 e2 x3 e3
          unfold wp_X10_need_32
          exact t_le 0 0 e3 rfl (by omega) (by omega) (fun _ => by rw [e2]; exact h J hs) (fun q => by omega)
        | succ f ih =>
          intro J hf hs x2 e2 x3 e3
          unfold wp_X10_need_32
          refine t_le (f + 1) 0 e3 rfl (by omega) (by omega) (fun _ => by omega) (fun q => ?_)
          subst e3
          refine M_by hw (hv.sm hs) hk (by omega) (by omega) (fun J1 hs1 => ?_)
          have hs1' := hs.tr hs1
          have b1 := mf_le hw k (f + 1)
          have ed := nI_dn f (by omega)
          have e7 : 8 - f = (8 - (f + 1)) + 1 := by omega
          refine t_lt v (mf z k (f + 1)) rfl rfl (by omega) (by omega) (fun q1 => ?_) (fun q1 => ?_)
          · unfold wp_X10_need_54
            dsimp only
            rw [ed]
            refine ih J1 (by omega) hs1' _ ?_ _ rfl
            rw [e2, e7]
            simp only [needF]
            rw [if_neg (by omega)]
          · unfold wp_X10_need_54
            dsimp only
            rw [ed]
            refine ih J1 (by omega) hs1' _ ?_ _ rfl
            rw [e7]
            simp only [needF]
            rw [if_pos q1]
      exact ⟨_, key 8 I (by omega) SM.rf _ rfl _ rfl⟩
    · simp only [if_neg hy] at h; exact h I SM.rf
  · simp only [if_neg hx] at h; exact h I SM.rf
end ODD
