/-! lose, put, cell, copy -/
def u_lose (z : St) (x : Int32) : Int32 × St := if InR x 0 4 then (match s_s z x.toNatClampNeg with | none => (0, zs z (va_up (s_s z) x.toNatClampNeg none) (s_t z)) | some _ => (1, zs z (va_up (s_s z) x.toNatClampNeg none) (s_t z))) else (-1, z)
def u_put (z : St) (x i v : Int32) : Int32 × St := if InR x 0 4 then (match s_s z x.toNatClampNeg with | none => (-11, zt z 1) | some q => if InR i 0 q.2.1 then (1, zs z (va_up (s_s z) x.toNatClampNeg (some (q.1, q.2.1, upd q.2.2 i.toNatClampNeg (cutl q.1 v)))) 0) else (-13, zt z 3)) else (-1, zt z 0)
def u_cell (z : St) (x i la : Int32) : Int64 × St := if InR x 0 4 then (if InR la 0 3 then (match s_s z x.toNatClampNeg with | none => (LOSTv, zt z 1) | some q => if la = nI q.1 then (if InR i 0 q.2.1 then ((q.2.2 i.toNatClampNeg).toInt64, zt z 0) else (LOSTv, zt z 3)) else (LOSTv, zt z 2)) else (LOSTv, zt z 0)) else (LOSTv, zt z 0)
def u_copy (z : St) (x i y j n : Int32) : Int32 × St := if InR x 0 4 then (if InR y 0 4 then (match s_s z x.toNatClampNeg, s_s z y.toNatClampNeg with
  | some q, some r => if q.1 = r.1 then (if Hs i n q.2.1 then (if Hs j n r.2.1 then (n, zs z (va_up (s_s z) y.toNatClampNeg (some (r.1, r.2.1, va_cpy q.2.2 r.2.2 i.toNatClampNeg j.toNatClampNeg n.toNatClampNeg))) 0) else (-13, zt z 3)) else (-13, zt z 3)) else (-12, zt z 2)
  | _, _ => (-11, zt z 1)) else (-1, zt z 0)) else (-1, zt z 0)
theorem Hs1 {i : Int32} {n : Nat} : Hs i 1 n ↔ InR i 0 n := by
  have e1 : (1 : Int32).toInt = 1 := by decide
  unfold Hs InR
  rw [e1]
  omega
section SH2
variable {ki : Nat → Nat} {nd : Nat} {z : St} {I : Mm} {x y w i j n : Int32} {Post : Int32 → Mm → Prop}
theorem nI_n1 {k : Nat} (h : k < 2 ^ 31) : ¬ nI k = (-1 : Int32) := by
  intro e
  have := congrArg Int32.toInt e
  rw [nI_toInt h] at this
  have h1 : (-1 : Int32).toInt = -1 := by decide
  rw [h1] at this; omega
theorem w_nothing {d : Nat} {A : Nat → Int32} {q : Option (Nat × Nat × (Nat → Int32))} (hq3 : ∀ r, q = some r → r.1 < 3) (hs : shC9 (I d) A q) (h : Post (if q = none then 1 else 0) I) : wp_X6_isNothing d I Post := by
  unfold wp_X6_isNothing
  cases q with
  | none =>
    have hs : I d 1 = -1 := hs
    rw [if_pos hs]; rw [if_pos rfl] at h; exact h
  | some r =>
    have hs : I d 1 = nI r.1 ∧ _ := hs
    rw [if_neg (by rw [hs.1]; exact nI_n1 (by have := hq3 r rfl; omega))]
    rw [if_neg (by simp)] at h; exact h
theorem s9_lose (hw : wfS z) (hv : CV ki z I) (h : ∀ I', FC I I' → CV ki (u_lose z x).2 I' → Post (u_lose z x).1 I') : wp_X9_lose ki nd x I Post := by
  unfold wp_X9_lose
  unfold u_lose at h
  refine w_sheet ?_
  rw [ite01]
  refine t_if (fun hx => ?_) (fun hx => ?_)
  · simp only [if_pos hx] at h
    obtain ⟨hin, ex, hk, hsh⟩ := c_sheet hw hv hx
    have hcv : CV ki (zs z (va_up (s_s z) x.toNatClampNeg none) (s_t z)) (up2 I (20 + x.toNatClampNeg) 1 (-1)) := by
      refine hv.s hw.1 (fun c a1 a2 => up2_oc (by omega)) (fun j _ => by rw [up2_oc (by omega)]) (by rw [up2_oc (by omega)]; exact hv.2.2.2.2.2.2.1) (fun k hk4 => ?_)
      by_cases hkx : k = x.toNatClampNeg
      · subst hkx; rw [va_up_self, up2_c]; exact upd_s _ _ _
      · rw [va_up_ne _ _ hkx, up2_oc (by omega), up2_oc (by omega)]; exact hv.2.2.2.2.2.1 k hk4
    refine ⟨hin, w_nothing (fun r hr => (hw.2.2.2.2.2.2.1 _ r hk hr).1) hsh ?_⟩
    rw [ite01]
    cases hq : s_s z x.toNatClampNeg with
    | none =>
      rw [hq] at h
      rw [if_pos rfl]
      exact ⟨hin, h _ (FC.up (by omega)) hcv⟩
    | some q =>
      rw [hq] at h
      rw [if_neg (by simp)]
      exact ⟨hin, h _ (FC.up (by omega)) hcv⟩
  · simp only [if_neg hx] at h; exact h I FC.rf hv
theorem s10_lose (hw : wfS z) (hv : MV z I) (h : ∀ I', FM I I' → MV (u_lose z x).2 I' → Post (u_lose z x).1 I') : wp_X10_lose x I Post := by
  unfold wp_X10_lose
  unfold u_lose at h
  refine m_noSheet ?_
  rw [ite10]
  refine t_if (fun hx => ?_) (fun hx => ?_)
  · simp only [if_pos hx] at h
    obtain ⟨hin, ex, hk, hsh⟩ := c_msheet hw hv hx
    have hcv : MV (zs z (va_up (s_s z) x.toNatClampNeg none) (s_t z)) (up2 I 125 x.toNatClampNeg (-1)) := by
      refine hv.s (fun c a0 a1 _ _ _ => up2_oc a1) (fun j _ => by rw [up2_oc (by decide)]) (by rw [up2_oc (by decide)]; exact hv.2.2.2.2.2.2.1) (fun k hk4 => ?_)
      rw [up2_c, up2_oc (by decide), up2_oc (by decide)]
      by_cases hkx : k = x.toNatClampNeg
      · subst hkx; rw [va_up_self]; exact upd_s _ _ _
      · rw [va_up_ne _ _ hkx, upd_n _ _ hkx]; exact hv.2.2.2.2.2.1 k hk4
    refine ⟨hin, ?_⟩
    cases hq : s_s z x.toNatClampNeg with
    | none =>
      rw [hq] at h hsh
      have hsh : I 125 x.toNatClampNeg = -1 := hsh
      rw [hsh, if_neg (by decide)]
      exact ⟨hin, h _ (FM.up (by decide)) hcv⟩
    | some q =>
      rw [hq] at h hsh
      have hb := (hw.2.2.2.2.2.2.1 _ q hk hq).2
      rw [hsh.1, if_pos (nI_pos' (by omega))]
      exact ⟨hin, h _ (FM.up (by decide)) hcv⟩
  · simp only [if_neg hx] at h; exact h I FM.rf hv
theorem wf_lose (hw : wfS z) : wfS (u_lose z x).2 := by
  have hz : wfS (zs z (va_up (s_s z) x.toNatClampNeg none) (s_t z)) := wf_zs hw (fun k q hk hq => by
    by_cases hkx : k = x.toNatClampNeg
    · rw [hkx, va_up_self] at hq; cases hq
    · rw [va_up_ne _ _ hkx] at hq; exact hw.2.2.2.2.2.2.1 k q hk hq)
  unfold u_lose
  by_cases hx : InR x 0 4
  · rw [if_pos hx]
    cases s_s z x.toNatClampNeg <;> exact hz
  · rw [if_neg hx]; exact hw
theorem s9_put (hw : wfS z) (hv : CV ki z I) (h : ∀ I', FC I I' → CV ki (u_put z x i w).2 I' → Post (u_put z x i w).1 I') : wp_X9_put ki nd x i w I Post := by
  unfold wp_X9_put
  unfold u_put at h
  refine w_sheet ?_
  rw [ite01]
  refine t_if (fun hx => ?_) (fun hx => ?_)
  · simp only [if_pos hx] at h
    obtain ⟨hin, ex, hk, hsh⟩ := c_sheet hw hv hx
    refine ⟨hin, w_nothing (fun r hr => (hw.2.2.2.2.2.2.1 _ r hk hr).1) hsh ?_⟩
    rw [ite01]
    cases hq : s_s z x.toNatClampNeg with
    | none =>
      rw [hq] at h
      rw [if_pos rfl]
      unfold wp_X9_faulted
      exact h _ (FC.up (by decide)) hv.t
    | some q =>
      rw [hq] at h hsh
      have hb := hw.2.2.2.2.2.2.1 _ q hk hq
      rw [if_neg (by simp)]
      refine ⟨hin, w_hasS (len := q.2.1) hb.2 hsh.2.1 ?_⟩
      rw [ite01]
      refine t_if (fun hi => ?_) (fun hi => ?_)
      · have hi := Hs1.mp hi
        simp only [if_pos hi] at h
        obtain ⟨ei, -, hi2⟩ := hi.n (by omega)
        refine ⟨hin, hin, ?_⟩
        have hd0 : (20 + x.toNatClampNeg) ≠ 0 := by omega
        have fin : ∀ v : Int32, v = cutl q.1 w → (vp_in i 60 ∧ Post 1 (up2 (up2 I 0 10 0) (20 + x.toNatClampNeg + 4) i.toNatClampNeg v)) := by
          intro v hvv
          refine ⟨vp_n ei (by omega) (by decide), ?_⟩
          refine h _ ((FC.up (by decide)).tr (FC.up (by omega))) ?_
          refine hv.s hw.1 (fun c a1 a2 => by rw [up2_oc (by omega), up2_oc a1]) (fun j hj => by rw [up2_oc (by omega), up2_c, upd_n _ _ hj]) (by rw [up2_oc (by omega), up2_c, upd_s]) (fun k hk4 => ?_)
          by_cases hkx : k = x.toNatClampNeg
          · subst hkx
            rw [va_up_self, up2_oc (by omega), up2_oc (by omega), up2_c, up2_oc (by omega)]
            refine ⟨hsh.1, hsh.2.1, fun a ha => ?_⟩
            by_cases e : a = i.toNatClampNeg
            · rw [e, upd_s]
              show v = upd q.2.2 i.toNatClampNeg (cutl q.1 w) i.toNatClampNeg
              rw [upd_s, hvv]
            · rw [upd_n _ _ e]
              show _ = upd q.2.2 i.toNatClampNeg (cutl q.1 w) a
              rw [upd_n _ _ e]; exact hsh.2.2 a ha
          · rw [va_up_ne _ _ hkx, up2_oc (by omega), up2_oc (by omega), up2_oc (by omega), up2_oc (by omega)]
            exact hv.2.2.2.2.2.1 k hk4
        unfold wp_X6_cut
        rw [up2_oc hd0, hsh.1]
        refine t_eq q.1 0 rfl rfl (by omega) (by decide) (fun h0 => ?_) (fun h0 => t_eq q.1 1 rfl rfl (by omega) (by decide) (fun h1 => ?_) (fun h1 => ?_))
        · exact fin _ (by unfold cutl; rw [if_pos h0])
        · exact fin _ (by unfold cutl; rw [if_neg h0, if_pos h1])
        · exact fin _ (by unfold cutl; rw [if_neg h0, if_neg h1])
      · have hi' : ¬ InR i 0 q.2.1 := fun a => hi (Hs1.mpr a)
        simp only [if_neg hi'] at h
        unfold wp_X9_faulted
        exact h _ (FC.up (by decide)) hv.t
  · simp only [if_neg hx] at h
    unfold wp_X9_refused
    exact h _ (FC.up (by decide)) hv.t
theorem m_noCell (hw : wfS z) (hv : MV z I) (hx : InR x 0 4) (h : Post (match s_s z x.toNatClampNeg with | none => 1 | some q => if InR i 0 q.2.1 then 0 else 3) I) : wp_X10_noCell x i I Post := by
  obtain ⟨hin, ex, hk, hsh⟩ := c_msheet hw hv hx
  unfold wp_X10_noCell
  refine ⟨hin, ?_⟩
  cases hq : s_s z x.toNatClampNeg with
  | none =>
    rw [hq] at h hsh
    have hsh : I 125 x.toNatClampNeg = -1 := hsh
    rw [hsh, if_neg (by decide)]; exact h
  | some q =>
    rw [hq] at h hsh
    have hb := (hw.2.2.2.2.2.2.1 _ q hk hq).2
    rw [hsh.1, if_pos (nI_pos' (by omega))]
    refine ⟨hin, w10 (a := 0) (b := q.2.1) (by decide) (nL_m1 _ hb) ?_⟩
    rw [ite01]
    exact t_if (fun q => by simp only [if_pos q] at h; exact h) (fun q => by simp only [if_neg q] at h; exact h)
theorem s10_put (hw : wfS z) (hv : MV z I) (h : ∀ I', FM I I' → MV (u_put z x i w).2 I' → Post (u_put z x i w).1 I') : wp_X10_put x i w I Post := by
  unfold wp_X10_put
  unfold u_put at h
  refine m_noSheet ?_
  rw [ite10]
  refine t_if (fun hx => ?_) (fun hx => ?_)
  · simp only [if_pos hx] at h
    obtain ⟨hin, ex, hk, hsh⟩ := c_msheet hw hv hx
    refine m_noCell hw hv hx ?_
    cases hq : s_s z x.toNatClampNeg with
    | none =>
      rw [hq] at h
      show if (1 : Int32) ≤ 0 then _ else _
      rw [if_neg (by decide)]
      refine m_noCell hw hv hx ?_
      rw [hq]
      unfold wp_X10_failed
      show Post ((-10 : Int32) - 1) (up2 I 100 0 1)
      rw [show (-10 : Int32) - 1 = -11 by decide]
      exact h _ (FM.up (by decide)) hv.t
    | some q =>
      rw [hq] at h hsh
      have hb := hw.2.2.2.2.2.2.1 _ q hk hq
      show if (if InR i 0 q.2.1 then (0 : Int32) else 3) ≤ 0 then _ else _
      by_cases hi : InR i 0 q.2.1
      · simp only [if_pos hi] at h ⊢
        rw [if_pos (by decide)]
        obtain ⟨ei, -, hi2⟩ := hi.n (by omega)
        refine ⟨hin, ?_⟩
        have fin : ∀ v : Int32, v = cutl q.1 w → wp_X10_put_73 Post v ((60 : Int32) * x + i) I := by
          intro v hvv
          unfold wp_X10_put_73 wp_X10_refused
          rw [idx60 ex ei]
          refine ⟨vp_in_nI (by omega) (by decide), ?_⟩
          rw [nI_clamp (by omega)]
          refine h _ ((FM.up (by decide)).tr (FM.up (by decide))) ?_
          refine hv.s (fun c a0 _ _ a3 _ => by rw [up2_oc a0, up2_oc a3]) (fun a ha => by rw [up2_c, upd_n _ _ ha, up2_oc (by decide)]) (by rw [up2_c, upd_s]) (fun k hk4 => ?_)
          rw [up2_oc (by decide), up2_oc (by decide), up2_oc (by decide), up2_oc (by decide), up2_oc (show (127 : Nat) ≠ 100 by decide), up2_c]
          by_cases hkx : k = x.toNatClampNeg
          · subst hkx
            rw [va_up_self]
            refine ⟨hsh.1, hsh.2.1, fun a ha => ?_⟩
            by_cases e : a = i.toNatClampNeg
            · rw [e, upd_s]
              show v = upd q.2.2 i.toNatClampNeg (cutl q.1 w) i.toNatClampNeg
              rw [upd_s, hvv]
            · rw [upd_n _ _ (by omega)]
              show _ = upd q.2.2 i.toNatClampNeg (cutl q.1 w) a
              rw [upd_n _ _ e]; exact hsh.2.2 a ha
          · rw [va_up_ne _ _ hkx]
            have := hv.2.2.2.2.2.1 k hk4
            unfold shM10 at this ⊢
            cases hq2 : s_s z k with
            | none => rw [hq2] at this; exact this
            | some r =>
              rw [hq2] at this
              have hb2 := (hw.2.2.2.2.2.2.1 k r hk4 hq2).2
              refine ⟨this.1, this.2.1, fun a ha => ?_⟩
              have ha : a < r.2.1 := ha
              rw [upd_n _ _ (by omega)]; exact this.2.2 a ha
        rw [hsh.2.1]
        refine t_eq q.1 0 rfl rfl (by omega) (by decide) (fun h0 => ?_) (fun h0 => ⟨hin, t_eq q.1 1 rfl rfl (by omega) (by decide) (fun h1 => ?_) (fun h1 => ?_)⟩)
        · exact fin _ (by unfold cutl; rw [if_pos h0])
        · exact fin _ (by unfold cutl; rw [if_neg h0, if_pos h1])
        · exact fin _ (by unfold cutl; rw [if_neg h0, if_neg h1])
      · simp only [if_neg hi] at h ⊢
        rw [if_neg (by decide)]
        refine m_noCell hw hv hx ?_
        rw [hq]
        simp only [if_neg hi]
        unfold wp_X10_failed
        exact h _ (FM.up (by decide)) hv.t
  · simp only [if_neg hx] at h
    unfold wp_X10_refused
    exact h _ (FM.up (by decide)) hv.t
theorem wf_put (hw : wfS z) : wfS (u_put z x i w).2 := by
  unfold u_put
  by_cases hx : InR x 0 4
  · rw [if_pos hx]
    obtain ⟨ex, -, hk⟩ := hx.n (by decide)
    cases hq : s_s z x.toNatClampNeg with
    | none => exact hw
    | some q =>
      show wfS (if InR i 0 q.2.1 then _ else _ : Int32 × St).2
      by_cases hi : InR i 0 q.2.1
      · rw [if_pos hi]
        refine wf_zs hw (fun k r hk4 hr => ?_)
        by_cases hkx : k = x.toNatClampNeg
        · rw [hkx, va_up_self] at hr
          cases hr; exact hw.2.2.2.2.2.2.1 _ q hk hq
        · rw [va_up_ne _ _ hkx] at hr; exact hw.2.2.2.2.2.2.1 k r hk4 hr
      · rw [if_neg hi]; exact hw
  · rw [if_neg hx]; exact hw
theorem s9_cell {Pl : Int64 → Mm → Prop} (hw : wfS z) (hv : CV ki z I) (h : ∀ I', FC I I' → CV ki (u_cell z x i w).2 I' → Pl (u_cell z x i w).1 I') : wp_X9_cell ki nd x i w I Pl := by
  unfold wp_X9_cell
  unfold u_cell at h
  have hv0 : CV ki (zt z 0) (up2 I 0 10 0) := hv.t
  refine w_sheet ?_
  rw [ite01]
  refine t_if (fun hx => ?_) (fun hx => ?_)
  · simp only [if_pos hx] at h
    refine w9 (a := 0) (b := 3) (by decide) (by decide) ?_
    rw [ite01]
    obtain ⟨hin, ex, hk, hsh⟩ := c_sheet (z := zt z 0) hw hv0 hx
    have hsh : shC9 (up2 I 0 10 0 (20 + x.toNatClampNeg)) (up2 I 0 10 0 (20 + x.toNatClampNeg + 4)) (s_s z x.toNatClampNeg) := hsh
    have hd0 : (20 + x.toNatClampNeg) ≠ 0 := by omega
    have hd4 : (20 + x.toNatClampNeg + 4) ≠ 0 := by omega
    refine t_if (fun hla => ?_) (fun hla => ?_)
    · simp only [if_pos hla] at h
      refine ⟨hin, ?_⟩
      have bad : ∀ (J : Mm) (t : Int32), t ≠ 0 → FC I J → CV ki (zt z t) J → (∀ I', FC I I' → CV ki (zt z t) I' → Pl LOSTv I') → wp_X9_cell_65 ki nd Pl x i J := by
        intro J t ht hf hc hh
        unfold wp_X9_cell_65
        rw [hc.2.2.2.2.2.2.1, if_neg ht]
        exact hh J hf hc
      have up10 : ∀ (J : Mm) (t : Int32), CV ki (zt z 0) J → CV ki (zt z t) (up2 J 0 10 t) := fun J t hJ => CV.t (z := zt z 0) hJ
      unfold wp_X6_faultAs
      refine w_nothing (fun r hr => (hw.2.2.2.2.2.2.1 _ r hk hr).1) hsh ?_
      rw [ite01]
      cases hq : s_s z x.toNatClampNeg with
      | none =>
        rw [hq] at h
        rw [if_pos rfl]
        dsimp only
        rw [up2_c, upd_s, if_neg (by decide)]
        exact bad _ 1 (by decide) ((FC.up (by decide)).tr (FC.up (by decide))) (up10 _ 1 hv0) h
      | some q =>
        rw [hq] at h hsh
        have hb := hw.2.2.2.2.2.2.1 _ q hk hq
        rw [if_neg (by simp), hsh.1]
        refine t_if (fun hl => ?_) (fun hl => ?_)
        · have h := h
          simp only [if_pos hl.symm] at h
          dsimp only
          rw [up2_c, upd_s, if_pos rfl]
          refine ⟨hin, w_hasS (len := q.2.1) hb.2 (by rw [up2_oc hd0]; exact hsh.2.1) ?_⟩
          rw [ite01]
          refine t_if (fun hi => ?_) (fun hi => ?_)
          · have hi := Hs1.mp hi
            simp only [if_pos hi] at h
            obtain ⟨ei, -, hi2⟩ := hi.n (by omega)
            have hcv := up10 _ 0 hv0
            unfold wp_X9_cell_65
            rw [hcv.2.2.2.2.2.2.1, if_pos rfl]
            refine ⟨hin, vp_n ei (by omega) (by decide), ?_⟩
            rw [up2_oc hd4, hsh.2.2 _ hi2]
            exact h _ ((FC.up (by decide)).tr (FC.up (by decide))) hcv
          · have hi' : ¬ InR i 0 q.2.1 := fun a => hi (Hs1.mpr a)
            simp only [if_neg hi'] at h
            exact bad _ 3 (by decide) ((FC.up (by decide)).tr ((FC.up (by decide)).tr (FC.up (by decide)))) (up10 _ 3 (up10 _ 0 hv0)) h
        · simp only [if_neg (fun e => hl (Eq.symm e))] at h
          dsimp only
          rw [up2_c, upd_s, if_neg (by decide)]
          exact bad _ 2 (by decide) ((FC.up (by decide)).tr (FC.up (by decide))) (up10 _ 2 hv0) h
    · simp only [if_neg hla] at h; exact h _ (FC.up (by decide)) hv0
  · simp only [if_neg hx] at h; exact h _ (FC.up (by decide)) hv0
theorem s10_cell {Pl : Int64 → Mm → Prop} (hw : wfS z) (hv : MV z I) (h : ∀ I', FM I I' → MV (u_cell z x i w).2 I' → Pl (u_cell z x i w).1 I') : wp_X10_cell x i w I Pl := by
  unfold wp_X10_cell
  unfold u_cell at h
  have hv0 : MV (zt z 0) (up2 I 100 0 0) := hv.t
  have up10 : ∀ (J : Mm) (t : Int32), MV (zt z 0) J → MV (zt z t) (up2 J 100 0 t) := fun J t hJ => MV.t (z := zt z 0) hJ
  refine m_noSheet ?_
  rw [ite10]
  refine t_if (fun hx => ?_) (fun hx => ?_)
  · simp only [if_pos hx] at h
    refine w10 (a := 0) (b := 3) (by decide) (by decide) ?_
    rw [ite01]
    obtain ⟨hin, ex, hk, hsh⟩ := c_msheet (z := zt z 0) hw hv0 hx
    have hsh : shM10 (up2 I 100 0 0 125 x.toNatClampNeg) (up2 I 100 0 0 126 x.toNatClampNeg) (up2 I 100 0 0 127) x.toNatClampNeg (s_s z x.toNatClampNeg) := hsh
    refine t_if (fun hla => ?_) (fun hla => ?_)
    · simp only [if_pos hla] at h
      refine ⟨hin, ?_⟩
      cases hq : s_s z x.toNatClampNeg with
      | none =>
        rw [hq] at h hsh
        have hsh : up2 I 100 0 0 125 x.toNatClampNeg = -1 := hsh
        rw [hsh, if_pos (by decide)]
        unfold wp_X10_cell_53
        refine m_noCell (z := zt z 0) hw hv0 hx ?_
        rw [show s_s (zt z 0) x.toNatClampNeg = none from hq]
        show if (1 : Int32) ≤ 0 then _ else _
        rw [if_neg (by decide)]
        refine m_noCell (z := zt z 0) hw hv0 hx ?_
        rw [show s_s (zt z 0) x.toNatClampNeg = none from hq]
        unfold wp_X10_failedLong wp_X10_lost
        exact h _ ((FM.up (by decide)).tr (FM.up (by decide))) (up10 _ 1 hv0)
      | some q =>
        rw [hq] at h hsh
        have hb := hw.2.2.2.2.2.2.1 _ q hk hq
        rw [hsh.1, if_neg (nI_pos (by omega))]
        refine ⟨hin, ?_⟩
        rw [hsh.2.1]
        refine t_if (fun hl => ?_) (fun hl => ?_)
        · simp only [if_pos hl.symm] at h
          unfold wp_X10_cell_53
          refine m_noCell (z := zt z 0) hw hv0 hx ?_
          rw [show s_s (zt z 0) x.toNatClampNeg = some q from hq]
          show if (if InR i 0 q.2.1 then (0 : Int32) else 3) ≤ 0 then _ else _
          by_cases hi : InR i 0 q.2.1
          · simp only [if_pos hi] at h ⊢
            rw [if_pos (by decide)]
            obtain ⟨ei, -, hi2⟩ := hi.n (by omega)
            rw [idx60 ex ei]
            refine ⟨vp_in_nI (by omega) (by decide), ?_⟩
            rw [nI_clamp (by omega), hsh.2.2 _ hi2]
            exact h _ (FM.up (by decide)) hv0
          · simp only [if_neg hi] at h ⊢
            rw [if_neg (by decide)]
            refine m_noCell (z := zt z 0) hw hv0 hx ?_
            rw [show s_s (zt z 0) x.toNatClampNeg = some q from hq]
            simp only [if_neg hi]
            unfold wp_X10_failedLong wp_X10_lost
            exact h _ ((FM.up (by decide)).tr (FM.up (by decide))) (up10 _ 3 hv0)
        · simp only [if_neg (fun e => hl (Eq.symm e))] at h
          unfold wp_X10_failedLong wp_X10_lost
          exact h _ ((FM.up (by decide)).tr (FM.up (by decide))) (up10 _ 2 hv0)
    · simp only [if_neg hla] at h
      unfold wp_X10_cell_24 wp_X10_lost
      exact h _ (FM.up (by decide)) hv0
  · simp only [if_neg hx] at h
    unfold wp_X10_cell_24 wp_X10_lost
    exact h _ (FM.up (by decide)) hv0
theorem wf_cell (hw : wfS z) : wfS (u_cell z x i w).2 := by
  unfold u_cell
  by_cases hx : InR x 0 4
  · rw [if_pos hx]
    by_cases hla : InR w 0 3
    · rw [if_pos hla]
      cases s_s z x.toNatClampNeg with
      | none => exact hw
      | some q =>
        show wfS (if w = nI q.1 then (if InR i 0 q.2.1 then _ else _) else _ : Int64 × St).2
        by_cases hl : w = nI q.1
        · rw [if_pos hl]
          by_cases hi : InR i 0 q.2.1
          · rw [if_pos hi]; exact hw
          · rw [if_neg hi]; exact hw
        · rw [if_neg hl]; exact hw
    · rw [if_neg hla]; exact hw
  · rw [if_neg hx]; exact hw
end SH2
