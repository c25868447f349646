/-! copy -/
section CPY
variable {ki : Nat → Nat} {nd : Nat} {z : St} {I : Mm} {x y w i j n : Int32} {Post : Int32 → Mm → Prop}
theorem Hs_n {len : Nat} (h : Hs i n len) (hl : len ≤ 60) : i = nI i.toNatClampNeg ∧ n = nI n.toNatClampNeg ∧ i.toNatClampNeg + n.toNatClampNeg ≤ len ∧ ¬ i < 0 ∧ ¬ n < 0 := by
  obtain ⟨h1, h2, h3⟩ := h
  obtain ⟨ei, -, hi⟩ := InR.n (x := i) (a := 0) (b := 61) ⟨by omega, by omega⟩ (by decide)
  obtain ⟨en, -, hn⟩ := InR.n (x := n) (a := 0) (b := 61) ⟨by omega, by omega⟩ (by decide)
  have e1 : i.toInt = (i.toNatClampNeg : Int) := by
    have := congrArg Int32.toInt ei
    rw [nI_toInt (by omega)] at this; exact this
  have e2 : n.toInt = (n.toNatClampNeg : Int) := by
    have := congrArg Int32.toInt en
    rw [nI_toInt (by omega)] at this; exact this
  have z0 : (0 : Int32).toInt = 0 := by decide
  refine ⟨ei, en, by omega, ?_, ?_⟩
  · rw [Int32.lt_iff_toInt_lt, z0]; omega
  · rw [Int32.lt_iff_toInt_lt, z0]; omega
theorem s9_copy (hw : wfS z) (hv : CV ki z I) (h : ∀ I', FC I I' → CV ki (u_copy z x i y j n).2 I' → Post (u_copy z x i y j n).1 I') : wp_X9_copy ki nd x i y j n I Post := by
  unfold wp_X9_copy
  unfold u_copy at h
  refine w_sheet ?_
  rw [ite01]
  refine t_if (fun hx => ?_) (fun hx => ?_)
  · simp only [if_pos hx] at h
    refine w_sheet ?_
    rw [ite01]
    refine t_if (fun hy => ?_) (fun hy => ?_)
    · simp only [if_pos hy] at h
      obtain ⟨hinx, ex, hkx, hshx⟩ := c_sheet hw hv hx
      obtain ⟨hiny, ey, hky, hshy⟩ := c_sheet hw hv hy
      refine ⟨hinx, hiny, w_nothing (fun r hr => (hw.2.2.2.2.2.2.1 _ r hkx hr).1) hshx ?_⟩
      rw [ite01]
      cases hq : s_s z x.toNatClampNeg with
      | none =>
        rw [hq] at h
        rw [if_pos rfl]
        unfold wp_X9_copy_52 wp_X9_faulted
        exact h _ (FC.up (by decide)) hv.t
      | some q =>
        rw [if_neg (by simp)]
        refine w_nothing (fun r hr => (hw.2.2.2.2.2.2.1 _ r hky hr).1) hshy ?_
        rw [ite01]
        cases hr : s_s z y.toNatClampNeg with
        | none =>
          rw [hq, hr] at h
          rw [if_pos rfl]
          unfold wp_X9_copy_52 wp_X9_faulted
          exact h _ (FC.up (by decide)) hv.t
        | some r =>
          rw [hq, hr] at h
          rw [hq] at hshx
          rw [hr] at hshy
          have hbq := hw.2.2.2.2.2.2.1 _ q hkx hq
          have hbr := hw.2.2.2.2.2.2.1 _ r hky hr
          rw [if_neg (by simp), hshx.1, hshy.1]
          refine t_eq q.1 r.1 rfl rfl (by omega) (by omega) (fun hl => ?_) (fun hl => ?_)
          · simp only [if_pos hl] at h
            refine w_hasS (len := q.2.1) hbq.2 hshx.2.1 ?_
            rw [ite01]
            refine t_if (fun hi => ?_) (fun hi => ?_)
            · simp only [if_pos hi] at h
              refine w_hasS (len := r.2.1) hbr.2 hshy.2.1 ?_
              rw [ite01]
              refine t_if (fun hj => ?_) (fun hj => ?_)
              · simp only [if_pos hj] at h
                obtain ⟨ei, en, hin, hi0, hn0⟩ := Hs_n hi hbq.2
                obtain ⟨ej, -, hjn, hj0, -⟩ := Hs_n hj hbr.2
                refine ⟨⟨hi0, hj0, hn0, by omega, by omega⟩, ?_⟩
                have o : ∀ c, c ≠ 0 → c ≠ 20 + y.toNatClampNeg + 4 → va_up (up2 I 0 10 0) (20 + y.toNatClampNeg + 4) (va_cpy ((up2 I 0 10 0) (20 + x.toNatClampNeg + 4)) ((up2 I 0 10 0) (20 + y.toNatClampNeg + 4)) i.toNatClampNeg j.toNatClampNeg n.toNatClampNeg) c = I c := fun c a b => by rw [va_up_ne _ _ b, up2_oc a]
                have o0 : va_up (up2 I 0 10 0) (20 + y.toNatClampNeg + 4) (va_cpy ((up2 I 0 10 0) (20 + x.toNatClampNeg + 4)) ((up2 I 0 10 0) (20 + y.toNatClampNeg + 4)) i.toNatClampNeg j.toNatClampNeg n.toNatClampNeg) 0 = upd (I 0) 10 0 := by rw [va_up_ne _ _ (by omega), up2_c]
                refine h _ (fun c hc => o c (by omega) (by omega)) ?_
                refine hv.s hw.1 (fun c a1 a2 => o c a1 (by omega)) (fun a ha => by rw [o0, upd_n _ _ ha]) (by rw [o0, upd_s]) (fun k hk4 => ?_)
                by_cases hky' : k = y.toNatClampNeg
                · subst hky'
                  rw [va_up_self, o (20 + y.toNatClampNeg) (by omega) (by omega), va_up_self, up2_oc (by omega), up2_oc (by omega)]
                  refine ⟨hshy.1, hshy.2.1, fun a ha => ?_⟩
                  have ha : a < r.2.1 := ha
                  show va_cpy _ _ _ _ _ a = va_cpy q.2.2 r.2.2 _ _ _ a
                  by_cases hc : j.toNatClampNeg ≤ a ∧ a < j.toNatClampNeg + n.toNatClampNeg
                  · rw [pk_cpy_in hc.1 hc.2, pk_cpy_in hc.1 hc.2]; exact hshx.2.2 _ (by omega)
                  · rw [pk_cpy_out (by omega), pk_cpy_out (by omega)]; exact hshy.2.2 a ha
                · rw [va_up_ne _ _ hky', o (20 + k) (by omega) (by omega), o (20 + k + 4) (by omega) (by omega)]
                  exact hv.2.2.2.2.2.1 k hk4
              · simp only [if_neg hj] at h
                unfold wp_X9_copy_100 wp_X9_faulted
                exact h _ (FC.up (by decide)) hv.t
            · simp only [if_neg hi] at h
              unfold wp_X9_copy_100 wp_X9_faulted
              exact h _ (FC.up (by decide)) hv.t
          · simp only [if_neg hl] at h
            unfold wp_X9_faulted
            exact h _ (FC.up (by decide)) hv.t
    · simp only [if_neg hy] at h
      unfold wp_X9_copy_14 wp_X9_refused
      exact h _ (FC.up (by decide)) hv.t
  · simp only [if_neg hx] at h
    unfold wp_X9_copy_14 wp_X9_refused
    exact h _ (FC.up (by decide)) hv.t
theorem s10_copy (hw : wfS z) (hv : MV z I) (h : ∀ I', FM I I' → MV (u_copy z x i y j n).2 I' → Post (u_copy z x i y j n).1 I') : wp_X10_copy x i y j n I Post := by
  unfold wp_X10_copy
  unfold u_copy at h
  refine m_noSheet ?_
  rw [ite10]
  refine t_if (fun hx => ?_) (fun hx => ?_)
  · simp only [if_pos hx] at h
    refine m_noSheet ?_
    rw [ite10]
    refine t_if (fun hy => ?_) (fun hy => ?_)
    · simp only [if_pos hy] at h
      obtain ⟨hinx, ex, hkx, hshx⟩ := c_msheet hw hv hx
      obtain ⟨hiny, ey, hky, hshy⟩ := c_msheet hw hv hy
      refine ⟨hinx, ?_⟩
      cases hq : s_s z x.toNatClampNeg with
      | none =>
        rw [hq] at h hshx
        have hshx : I 125 x.toNatClampNeg = -1 := hshx
        rw [hshx, if_pos (by decide)]
        unfold wp_X10_copy_38 wp_X10_failed
        exact h _ (FM.up (by decide)) hv.t
      | some q =>
        have hbq := hw.2.2.2.2.2.2.1 _ q hkx hq
        rw [hq] at hshx
        rw [hshx.1, if_neg (nI_pos (by omega))]
        refine ⟨hiny, ?_⟩
        cases hr : s_s z y.toNatClampNeg with
        | none =>
          rw [hq, hr] at h
          rw [hr] at hshy
          have hshy : I 125 y.toNatClampNeg = -1 := hshy
          rw [hshy, if_neg (by decide)]
          unfold wp_X10_copy_38 wp_X10_failed
          exact h _ (FM.up (by decide)) hv.t
        | some r =>
          rw [hq, hr] at h
          rw [hr] at hshy
          have hbr := hw.2.2.2.2.2.2.1 _ r hky hr
          rw [hshy.1, if_pos (nI_pos' (by omega))]
          refine ⟨hinx, hiny, ?_⟩
          rw [hshx.2.1, hshy.2.1]
          refine t_eq q.1 r.1 rfl rfl (by omega) (by omega) (fun hl => ?_) (fun hl => ?_)
          · simp only [if_pos hl] at h
            refine ⟨hinx, m_beyond hbq.2 rfl ?_⟩
            rw [ite10]
            refine t_if (fun hi => ?_) (fun hi => ?_)
            · simp only [if_pos hi] at h
              refine ⟨hiny, ?_⟩
              rw [hshy.1]
              refine m_beyond hbr.2 rfl ?_
              rw [ite10]
              refine t_if (fun hj => ?_) (fun hj => ?_)
              · simp only [if_pos hj] at h
                obtain ⟨ei, en, hin, hi0, hn0⟩ := Hs_n hi hbq.2
                obtain ⟨ej, -, hjn, hj0, -⟩ := Hs_n hj hbr.2
                have k2 : ∀ c m (J : Mm), m + c = n.toNatClampNeg → (∀ c, c ≠ 127 → c ≠ 128 → J c = I c) → (∀ a, a < n.toNatClampNeg → J 128 a = q.2.2 (i.toNatClampNeg + a)) → (∀ a, a < m → J 127 (60 * y.toNatClampNeg + j.toNatClampNeg + a) = q.2.2 (i.toNatClampNeg + a)) → (∀ a, a < 60 * y.toNatClampNeg + j.toNatClampNeg ∨ 60 * y.toNatClampNeg + j.toNatClampNeg + n.toNatClampNeg ≤ a → J 127 a = I 127 a) → wp_X10_copy_144 (fun x5 I => wp_X10_copy_179 Post x5 I) Post (c + 1) y j n (nI m) J := by
                  intro c
                  induction c with
                  | zero =>
                    intro m J hm h1 h2 h3 h4
                    unfold wp_X10_copy_144
                    refine t_le n.toNatClampNeg m en rfl (by omega) (by omega) (fun _ => ?_) (fun q => by omega)
                    unfold wp_X10_copy_179 wp_X10_refused
                    refine h _ (fun c hc => by rw [up2_oc (by omega)]; exact h1 c (by omega) (by omega)) ?_
                    refine hv.s (fun c a0 _ _ a3 a4 => by rw [up2_oc a0]; exact h1 c a3 a4) (fun a ha => by rw [up2_c, upd_n _ _ ha, h1 100 (by decide) (by decide)]) (by rw [up2_c, upd_s]) (fun k hk4 => ?_)
                    rw [up2_oc (by decide), up2_oc (by decide), up2_oc (by decide), h1 125 (by decide) (by decide), h1 126 (by decide) (by decide)]
                    by_cases hky' : k = y.toNatClampNeg
                    · subst hky'
                      rw [va_up_self]
                      refine ⟨hshy.1, hshy.2.1, fun a ha => ?_⟩
                      have ha : a < r.2.1 := ha
                      show _ = va_cpy q.2.2 r.2.2 _ _ _ a
                      by_cases hc : j.toNatClampNeg ≤ a ∧ a < j.toNatClampNeg + n.toNatClampNeg
                      · rw [pk_cpy_in hc.1 hc.2]
                        have := h3 (a - j.toNatClampNeg) (by omega)
                        rw [show 60 * y.toNatClampNeg + j.toNatClampNeg + (a - j.toNatClampNeg) = 60 * y.toNatClampNeg + a by omega] at this
                        exact this
                      · rw [pk_cpy_out (by omega), h4 _ (by omega)]; exact hshy.2.2 a ha
                    · rw [va_up_ne _ _ hky']
                      have := hv.2.2.2.2.2.1 k hk4
                      unfold shM10 at this ⊢
                      cases hq2 : s_s z k with
                      | none => rw [hq2] at this; exact this
                      | some r2 =>
                        rw [hq2] at this
                        have hb2 := (hw.2.2.2.2.2.2.1 k r2 hk4 hq2).2
                        refine ⟨this.1, this.2.1, fun a ha => ?_⟩
                        have ha : a < r2.2.1 := ha
                        rw [h4 _ (by omega)]; exact this.2.2 a ha
                  | succ c ih =>
                    intro m J hm h1 h2 h3 h4
                    unfold wp_X10_copy_144
                    refine t_le n.toNatClampNeg m en rfl (by omega) (by omega) (fun q => by omega) (fun q => ?_)
                    refine ⟨vp_in_nI (by omega) (by decide), ?_⟩
                    rw [idx60 ey ej, nI_add]
                    refine ⟨vp_in_nI (by omega) (by decide), ?_⟩
                    rw [nI_clamp (by omega), nI_clamp (by omega), show nI m + 1 = nI (m + 1) from nI_1 m]
                    refine ih (m + 1) _ (by omega) (fun c a1 a2 => by rw [up2_oc a1]; exact h1 c a1 a2) (fun a ha => by rw [up2_oc (by decide)]; exact h2 a ha) (fun a ha => ?_) (fun a ha => ?_)
                    · rw [up2_c]
                      by_cases e : a = m
                      · rw [e, upd_s]; exact h2 m q
                      · rw [upd_n _ _ (by omega)]; exact h3 a (by omega)
                    · rw [up2_c, upd_n _ _ (by omega)]; exact h4 a ha
                have k1 : ∀ c m (J : Mm), m + c = n.toNatClampNeg → (∀ c, c ≠ 128 → J c = I c) → (∀ a, a < m → J 128 a = q.2.2 (i.toNatClampNeg + a)) → wp_X10_copy_107 (fun x3 x4 x5 I => wp_X10_copy_141 Post x3 x4 x5 I) Post (c + 1) x i y j n (nI m) J := by
                  intro c
                  induction c with
                  | zero =>
                    intro m J hm h1 h2
                    unfold wp_X10_copy_107
                    refine t_le n.toNatClampNeg m en rfl (by omega) (by omega) (fun _ => ?_) (fun q => by omega)
                    unfold wp_X10_copy_141
                    exact ⟨_, k2 n.toNatClampNeg 0 J (by omega) (fun c _ a => h1 c a) (fun a ha => h2 a (by omega)) (fun a ha => absurd ha (Nat.not_lt_zero _)) (fun a _ => by rw [h1 127 (by decide)])⟩
                  | succ c ih =>
                    intro m J hm h1 h2
                    unfold wp_X10_copy_107
                    refine t_le n.toNatClampNeg m en rfl (by omega) (by omega) (fun q => by omega) (fun q => ?_)
                    rw [idx60 ex ei, nI_add]
                    refine ⟨vp_in_nI (by omega) (by decide), vp_in_nI (by omega) (by decide), ?_⟩
                    rw [nI_clamp (by omega), nI_clamp (by omega), show nI m + 1 = nI (m + 1) from nI_1 m]
                    refine ih (m + 1) _ (by omega) (fun c a1 => by rw [up2_oc a1]; exact h1 c a1) (fun a ha => ?_)
                    rw [up2_c]
                    by_cases e : a = m
                    · rw [e, upd_s, h1 127 (by decide), show 60 * x.toNatClampNeg + i.toNatClampNeg + m = 60 * x.toNatClampNeg + (i.toNatClampNeg + m) by omega]
                      exact hshx.2.2 _ (by omega)
                    · rw [upd_n _ _ e]; exact h2 a (by omega)
                exact ⟨_, k1 n.toNatClampNeg 0 I (by omega) (fun _ _ => rfl) (fun a ha => absurd ha (Nat.not_lt_zero _))⟩
              · simp only [if_neg hj] at h
                unfold wp_X10_copy_98 wp_X10_failed
                exact h _ (FM.up (by decide)) hv.t
            · simp only [if_neg hi] at h
              unfold wp_X10_copy_98 wp_X10_failed
              exact h _ (FM.up (by decide)) hv.t
          · simp only [if_neg hl] at h
            unfold wp_X10_failed
            exact h _ (FM.up (by decide)) hv.t
    · simp only [if_neg hy] at h
      unfold wp_X10_copy_14 wp_X10_refused
      exact h _ (FM.up (by decide)) hv.t
  · simp only [if_neg hx] at h
    unfold wp_X10_copy_14 wp_X10_refused
    exact h _ (FM.up (by decide)) hv.t
theorem wf_copy (hw : wfS z) : wfS (u_copy z x i y j n).2 := by
  unfold u_copy
  by_cases hx : InR x 0 4
  · rw [if_pos hx]
    by_cases hy : InR y 0 4
    · rw [if_pos hy]
      obtain ⟨ey, -, hky⟩ := hy.n (by decide)
      cases hq : s_s z x.toNatClampNeg with
      | none => exact hw
      | some q =>
        cases hr : s_s z y.toNatClampNeg with
        | none => exact hw
        | some r =>
          show wfS (if q.1 = r.1 then (if Hs i n q.2.1 then (if Hs j n r.2.1 then _ else _) else _) else _ : Int32 × St).2
          by_cases hl : q.1 = r.1
          · rw [if_pos hl]
            by_cases hi : Hs i n q.2.1
            · rw [if_pos hi]
              by_cases hj : Hs j n r.2.1
              · rw [if_pos hj]
                refine wf_zs hw (fun k p hk4 hp => ?_)
                by_cases hkx : k = y.toNatClampNeg
                · rw [hkx, va_up_self] at hp
                  cases hp; exact hw.2.2.2.2.2.2.1 _ r hky hr
                · rw [va_up_ne _ _ hkx] at hp; exact hw.2.2.2.2.2.2.1 k p hk4 hp
              · rw [if_neg hj]; exact hw
            · rw [if_neg hi]; exact hw
          · rw [if_neg hl]; exact hw
    · rw [if_neg hy]; exact hw
  · rw [if_neg hx]; exact hw
end CPY
