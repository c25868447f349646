/-! misses, odd, need: as they are by f frames of the whole line -/
def mf (z : St) (k f : Nat) : Nat := (ply (s_k z k) f (s_l z)).2.2
def v_misses (z : St) (x y : Int32) : Int32 := if InR x 0 (s_n z) then (if InR y 1 9 then nI (mf z x.toNatClampNeg y.toNatClampNeg) else -2) else -1
/-- the least f in 1 .. 7, from f on -/
def oddF (z : St) (k : Nat) : Nat → Nat → Int32
  | 0, _ => -9
  | n + 1, f => if mf z k f < mf z k (f + 1) then nI f else oddF z k n (f + 1)
def v_odd (z : St) (x : Int32) : Int32 := if InR x 0 (s_n z) then oddF z x.toNatClampNeg 7 1 else -1
def needF (z : St) (k v : Nat) : Nat → Nat → Int32
  | 0, _ => -9
  | n + 1, f => if mf z k f ≤ v then nI f else needF z k v n (f + 1)
def v_need (z : St) (x y : Int32) : Int32 := if InR x 0 (s_n z) then (if InR y 0 25 then needF z x.toNatClampNeg y.toNatClampNeg 8 1 else -2) else -1
section MSS
variable {ki : Nat → Nat} {z : St} {I : Mm} {x y w : Int32} {Post : Int32 → Mm → Prop}
theorem mf_le (hw : wfS z) (k f : Nat) : mf z k f ≤ 24 := by
  have h1 : (ply (s_k z k) f (s_l z)).2.2 ≤ 0 + (s_l z).length := ply_miss (s_k z k) f (s_l z) ([], 0, 0)
  have h2 := hw.2.1
  show (ply (s_k z k) f (s_l z)).2.2 ≤ 24
  omega
/-- the hits of a desk of kind k by f frames, as a mask -/
theorem P_hits {k f nd : Nat} (hw : wfS z) (hv : CV ki z I) (hk3 : k < 3) (hf1 : 1 ≤ f) (hf : f ≤ 8) (h : ∀ I', SC I I' → Post (nI (hmk k f (s_l z) (s_l z).length)) I') : wp_X9_hitsOf ki nd (nI k) (nI f) I Post := by
  have hn := hw.1
  have hl := hw.2.1
  unfold wp_X9_hitsOf
  refine ⟨vp_in_nI hk3 (by decide), ?_⟩
  rw [nI_clamp (by omega)]
  have hki : ki (30 + k) = kc k := hv.2.2.2.2.2.2.2.2 k hk3
  have key : ∀ n j (J : Mm), j + n = (s_l z).length → SC I J → rp (J (30 + k)) (J (30 + k + 20)) f (ply k f ((s_l z).take j)) → wp_X9_hitsOf_18 ki nd Post (n + 1) (30 + k) (nI (hmk k f (s_l z) j)) (nI j) J := by
    intro n
    induction n with
    | zero =>
      intro j J hj hs hr
      have hvJ := hv.sc hn hs
      unfold wp_X9_hitsOf_18
      refine t_le (s_l z).length j hvJ.2.1.1 rfl (by omega) (by omega) (fun _ => ?_) (fun q => by omega)
      have : j = (s_l z).length := by omega
      subst this
      exact h J hs
    | succ n ih =>
      intro j J hj hs hr
      have hvJ := hv.sc hn hs
      unfold wp_X9_hitsOf_18
      refine t_le (s_l z).length j hvJ.2.1.1 rfl (by omega) (by omega) (fun q => by omega) (fun q => ?_)
      refine ⟨vp_in_nI (by omega) (by decide), ?_⟩
      rw [nI_clamp (by omega), hvJ.2.1.2 j q]
      have hok := ply_ok (k := k) hf1 ((s_l z).take j) ([], 0, 0) (ok0 f) (fun p hp => hw.2.2.1 p (List.mem_of_mem_take hp))
      refine P_serve hk3 hki hr hok hf hf1 (hw.2.2.1 _ (mem_of_getD q)) (fun J' hfr hr' => ?_)
      have hs' : SC I J' := hs.tr (hfr.sc hk3)
      rw [← ply_succ q] at hr'
      have hn' := ih (j + 1) J' (by omega) hs' hr'
      have hlt := hmk_lt k f (s_l z) j
      by_cases hm : (s_l z).getD j 0 ∈ (ply k f ((s_l z).take j)).1
      · rw [if_pos hm, if_neg (by decide)]
        unfold wp_X9_hitsOf_57
        rw [nn_one j (by omega), nn_or, or_add hlt, show nI j + 1 = nI (j + 1) from nI_1 j]
        have e : hmk k f (s_l z) (j + 1) = hmk k f (s_l z) j + 2 ^ j := by show hmk k f (s_l z) j + _ = _; rw [if_pos hm]
        rw [e] at hn'
        exact hn'
      · rw [if_neg hm, if_pos rfl]
        unfold wp_X9_hitsOf_57
        rw [show nI (hmk k f (s_l z) j) ||| (0 : Int32) = nI (hmk k f (s_l z) j) from Int32.or_zero, show nI j + 1 = nI (j + 1) from nI_1 j]
        have e : hmk k f (s_l z) (j + 1) = hmk k f (s_l z) j := by show hmk k f (s_l z) j + _ = _; rw [if_neg hm, Nat.add_zero]
        rw [e] at hn'
        exact hn'
  refine P_clear (fun J hfr hr => ?_)
  exact ⟨_, key (s_l z).length 0 J (by omega) (hfr.sc hk3) hr⟩
theorem P_by {k f : Nat} (hw : wfS z) (hv : CV ki z I) (hk : k < s_n z) (hf1 : 1 ≤ f) (hf : f ≤ 8) (h : ∀ I', SC I I' → Post (nI (mf z k f)) I') : wp_X9_missesBy ki (s_n z) (nI k) (nI f) I Post := by
  have hn := hw.1
  have hl := hw.2.1
  obtain ⟨k3, f1, f5⟩ := hw.2.2.2.2.1 k hk
  unfold wp_X9_missesBy
  refine ⟨vp_in_nI hk (by omega), ?_⟩
  rw [nI_clamp (by omega)]
  refine p_kind k3 (hv.2.2.2.1 k hk).1 ?_
  refine P_hits hw hv k3 hf1 hf (fun J hs => ?_)
  have hlt := hmk_lt (s_k z k) f (s_l z) (s_l z).length
  have hp : 2 ^ (s_l z).length ≤ 2 ^ 24 := Nat.pow_le_pow_right (by decide) hl
  refine w_bitCount (by omega) ?_
  have hc := hmk_cnt (s_k z k) f (s_l z) (s_l z).length (Nat.le_refl _) hl
  rw [List.take_length] at hc
  rw [hv.2.1.1, pk_sub (by omega), show (s_l z).length - P24 (hmk (s_k z k) f (s_l z) (s_l z).length) = mf z k f by unfold mf; omega]
  exact h J hs
theorem s9_misses (hw : wfS z) (hv : CV ki z I) (h : ∀ I', SC I I' → Post (v_misses z x y) I') : wp_X9_misses ki (s_n z) x y I Post := by
  have hn := hw.1
  unfold wp_X9_misses
  unfold v_misses at h
  refine w_isDesk hw.1 hv.1 ?_
  rw [ite01]
  refine t_if (fun hx => ?_) (fun hx => ?_)
  · simp only [if_pos hx] at h
    obtain ⟨e, -, hk⟩ := hx.n (by omega)
    refine w9 (a := 1) (b := 9) (by decide) (by decide) ?_
    rw [ite01]
    refine t_if (fun hy => ?_) (fun hy => ?_)
    · simp only [if_pos hy] at h
      obtain ⟨ey, hy1, hy9⟩ := hy.n (by decide)
      rw [e, ey]
      exact P_by hw hv hk hy1 (by omega) h
    · simp only [if_neg hy] at h; exact h I SC.rf
  · simp only [if_neg hx] at h; exact h I SC.rf
theorem M_by {k f : Nat} (hw : wfS z) (hv : MV z I) (hk : k < s_n z) (hf1 : 1 ≤ f) (hf : f ≤ 8) (h : ∀ I', SM I I' → Post (nI (mf z k f)) I') : wp_X10_missesBy (nI k) (nI f) I Post := by
  have hn := hw.1
  obtain ⟨k3, f1, f5⟩ := hw.2.2.2.2.1 k hk
  unfold wp_X10_missesBy
  refine ⟨vp_in_nI (by omega) (by decide), ?_⟩
  rw [nI_clamp (by omega), (hv.2.2.2.1 k hk).1, hv.2.1.1]
  refine M_line k3 hf hf1 hw.2.1 rfl hw.2.2.1 hv.2.1.2 (fun J hs hr => ?_)
  rw [hr.2.2.2.2.1]
  exact h J hs
theorem s10_misses (hw : wfS z) (hv : MV z I) (h : ∀ I', SM I I' → Post (v_misses z x y) I') : wp_X10_misses x y I Post := by
  have hn := hw.1
  unfold wp_X10_misses
  unfold v_misses at h
  refine m_noDesk hw.1 hv.1 ?_
  rw [ite10]
  refine t_if (fun hx => ?_) (fun hx => ?_)
  · simp only [if_pos hx] at h
    obtain ⟨e, -, hk⟩ := hx.n (by omega)
    refine w10 (a := 1) (b := 9) (by decide) (by decide) ?_
    rw [ite01]
    refine t_if (fun hy => ?_) (fun hy => ?_)
    · simp only [if_pos hy] at h
      obtain ⟨ey, hy1, hy9⟩ := hy.n (by decide)
      rw [e, ey]
      exact M_by hw hv hk hy1 (by omega) h
    · simp only [if_neg hy] at h; exact h I SM.rf
  · simp only [if_neg hx] at h; exact h I SM.rf
end MSS
