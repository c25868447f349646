set_option maxRecDepth 20000 in
theorem L_reading {f : Fx} {b L : Nat} {xs : Nat → Int32} {cells slots : Nat} {g : Gm} {I : Mm} {z : St} {i a1 a2 : Nat} (hX : Lx f b L xs) (hJ : JV a1 a2 z g I) (hi : i + 7 ≤ L) (h1 : cells + 8 ≤ 600000) (h2 : slots + 52 ≤ 7302249) (kk : ∀ g' I' z', JV a1 a2 z' g' I' → PW f (cells + 8) (slots + 52) g' I' 1203 (lvL b a1 a2 i) []) : PW f cells slots g I 703 (lvL b a1 a2 i) [] := by
  obtain ⟨hw, hv, hm, hG, hM, rfl, rfl⟩ := hJ
  have hC := hX.1
  refine r_aload_n hC dL_law_703 rfl rfl (j := 2) rfl ?_
  refine s_arg hX (k := 1) dL_law_704 dL_law_705 dL_law_706 dL_law_707 dL_law_708 rfl (by decide) hi (by decide) ?_
  refine s_arg hX (k := 2) dL_law_709 dL_law_710 dL_law_711 dL_law_712 dL_law_713 rfl (by decide) hi (by decide) ?_
  refine s_arg hX (k := 3) dL_law_714 dL_law_715 dL_law_716 dL_law_717 dL_law_718 rfl (by decide) hi (by decide) ?_
  have h9 : wp_X9_reading (gK g) (s_n z) (xs (i + 1)) (xs (i + 2)) (xs (i + 3)) I (fun r J => r = (u_reading z (xs (i + 1)) (xs (i + 2)) (xs (i + 3))).1 ∧ FC I J ∧ CV (gK g) (u_reading z (xs (i + 1)) (xs (i + 2)) (xs (i + 3))).2 J) := s9_reading hw hv (fun J hf hc => ⟨rfl, hf, hc⟩)
  refine r_callI hC (rmc := rm_X9_reading) (a_V hC (k := 9) (c_X9_reading hG h9) ci_X9_reading gL_law_X9_reading rfl ⟨(Nat.le_of_ble_eq_true rfl), (Nat.le_of_ble_eq_true rfl)⟩ ⟨by show cells + 0 ≤ 600000; omega, by show slots + 0 ≤ 7302249; omega⟩ rfl (by decide) hG.o.1 (List.mem_singleton.mp hG.o.2) rfl rfl (Nat.le_of_ble_eq_true rfl) dL_law_719) ⟨rfl, rfl⟩ rfl (fun r J hJ => ?_)
  obtain ⟨e9, hf, hv⟩ := hJ
  have hm := hm.fc hf
  refine r_aload_n hC dL_law_722 rfl rfl (j := 1) rfl ?_
  refine s_arg hX (k := 1) dL_law_723 dL_law_724 dL_law_725 dL_law_726 dL_law_727 rfl (by decide) hi (by decide) ?_
  refine s_arg hX (k := 2) dL_law_728 dL_law_729 dL_law_730 dL_law_731 dL_law_732 rfl (by decide) hi (by decide) ?_
  refine s_arg hX (k := 3) dL_law_733 dL_law_734 dL_law_735 dL_law_736 dL_law_737 rfl (by decide) hi (by decide) ?_
  have h10 : wp_X10_reading (xs (i + 1)) (xs (i + 2)) (xs (i + 3)) J (fun r K => r = (u_reading z (xs (i + 1)) (xs (i + 2)) (xs (i + 3))).1 ∧ FM J K ∧ MV (u_reading z (xs (i + 1)) (xs (i + 2)) (xs (i + 3))).2 K) := s10_reading hw hm (fun J hf hc => ⟨rfl, hf, hc⟩)
  refine r_callI hC (rmc := rm_X10_reading) (a_V hC (k := 10) (c_X10_reading hM h10) ci_X10_reading gL_law_X10_reading rfl ⟨(Nat.le_of_ble_eq_true rfl), (Nat.le_of_ble_eq_true rfl)⟩ ⟨by show cells + 0 ≤ 600000; omega, by show slots + 0 ≤ 7302249; omega⟩ rfl (by decide) hM.o.1 (List.mem_singleton.mp hM.o.2) rfl rfl (Nat.le_of_ble_eq_true rfl) dL_law_738) ⟨rfl, rfl⟩ rfl (fun r2 K hK2 => ?_)
  obtain ⟨e10, hf2, hm⟩ := hK2
  have hv := CV.fm (z := (u_reading z (xs (i + 1)) (xs (i + 2)) (xs (i + 3))).2) (wf_reading hw).1 hf2 hv
  refine r_icmp_eq hC (tgt := 1203) (P1 := True) (P2 := False) dL_law_741 rfl (by decide) (by rw [if_pos (e9.trans e10.symm)]; trivial) (fun _ => ?_) (fun h => h.elim)
  exact r_widen (by omega) (by omega) (kk g K _ ⟨wf_reading hw, hv, hm, by rw [ns_reading]; exact hG, hM, rfl, rfl⟩)
set_option maxRecDepth 20000 in
theorem L_back {f : Fx} {b L : Nat} {xs : Nat → Int32} {cells slots : Nat} {g : Gm} {I : Mm} {z : St} {i a1 a2 : Nat} (hX : Lx f b L xs) (hJ : JV a1 a2 z g I) (hi : i + 7 ≤ L) (h1 : cells + 8 ≤ 600000) (h2 : slots + 52 ≤ 7302249) (kk : ∀ g' I' z', JV a1 a2 z' g' I' → PW f (cells + 8) (slots + 52) g' I' 1203 (lvL b a1 a2 i) []) : PW f cells slots g I 746 (lvL b a1 a2 i) [] := by
  obtain ⟨hw, hv, hm, hG, hM, rfl, rfl⟩ := hJ
  have hC := hX.1
  refine r_aload_n hC dL_law_746 rfl rfl (j := 2) rfl ?_
  refine s_arg hX (k := 1) dL_law_747 dL_law_748 dL_law_749 dL_law_750 dL_law_751 rfl (by decide) hi (by decide) ?_
  have h9 : wp_X9_back (gK g) (s_n z) (xs (i + 1)) I (fun r J => r = (u_back z (xs (i + 1))).1 ∧ FC I J ∧ CV (gK g) (u_back z (xs (i + 1))).2 J) := s9_back hw hv (fun J hf hc => ⟨rfl, hf, hc⟩)
  refine r_callI hC (rmc := rm_X9_back) (a_V hC (k := 9) (c_X9_back hG h9) ci_X9_back gL_law_X9_back rfl ⟨(Nat.le_of_ble_eq_true rfl), (Nat.le_of_ble_eq_true rfl)⟩ ⟨by show cells + 0 ≤ 600000; omega, by show slots + 0 ≤ 7302249; omega⟩ rfl (by decide) hG.o.1 (List.mem_singleton.mp hG.o.2) rfl rfl (Nat.le_of_ble_eq_true rfl) dL_law_752) ⟨rfl, rfl⟩ rfl (fun r J hJ => ?_)
  obtain ⟨e9, hf, hv⟩ := hJ
  have hm := hm.fc hf
  refine r_aload_n hC dL_law_755 rfl rfl (j := 1) rfl ?_
  refine s_arg hX (k := 1) dL_law_756 dL_law_757 dL_law_758 dL_law_759 dL_law_760 rfl (by decide) hi (by decide) ?_
  have h10 : wp_X10_back (xs (i + 1)) J (fun r K => r = (u_back z (xs (i + 1))).1 ∧ FM J K ∧ MV (u_back z (xs (i + 1))).2 K) := s10_back hw hm (fun J hf hc => ⟨rfl, hf, hc⟩)
  refine r_callI hC (rmc := rm_X10_back) (a_V hC (k := 10) (c_X10_back hM h10) ci_X10_back gL_law_X10_back rfl ⟨(Nat.le_of_ble_eq_true rfl), (Nat.le_of_ble_eq_true rfl)⟩ ⟨by show cells + 0 ≤ 600000; omega, by show slots + 0 ≤ 7302249; omega⟩ rfl (by decide) hM.o.1 (List.mem_singleton.mp hM.o.2) rfl rfl (Nat.le_of_ble_eq_true rfl) dL_law_761) ⟨rfl, rfl⟩ rfl (fun r2 K hK2 => ?_)
  obtain ⟨e10, hf2, hm⟩ := hK2
  have hv := CV.fm (z := (u_back z (xs (i + 1))).2) (wf_back hw).1 hf2 hv
  refine r_icmp_eq hC (tgt := 1203) (P1 := True) (P2 := False) dL_law_764 rfl (by decide) (by rw [if_pos (e9.trans e10.symm)]; trivial) (fun _ => ?_) (fun h => h.elim)
  exact r_widen (by omega) (by omega) (kk g K _ ⟨wf_back hw, hv, hm, by rw [ns_back]; exact hG, hM, rfl, rfl⟩)
set_option maxRecDepth 20000 in
theorem L_sizes {f : Fx} {b L : Nat} {xs : Nat → Int32} {cells slots : Nat} {g : Gm} {I : Mm} {z : St} {i a1 a2 : Nat} (hX : Lx f b L xs) (hJ : JV a1 a2 z g I) (hi : i + 7 ≤ L) (h1 : cells + 8 ≤ 600000) (h2 : slots + 52 ≤ 7302249) (kk : ∀ g' I' z', JV a1 a2 z' g' I' → PW f (cells + 8) (slots + 52) g' I' 1203 (lvL b a1 a2 i) []) : PW f cells slots g I 769 (lvL b a1 a2 i) [] := by
  obtain ⟨hw, hv, hm, hG, hM, rfl, rfl⟩ := hJ
  have hC := hX.1
  refine r_aload_n hC dL_law_769 rfl rfl (j := 2) rfl ?_
  refine s_arg hX (k := 1) dL_law_770 dL_law_771 dL_law_772 dL_law_773 dL_law_774 rfl (by decide) hi (by decide) ?_
  have h9 : wp_X9_sizes (gK g) (s_n z) (xs (i + 1)) I (fun r J => r = (v_sizes z (xs (i + 1))) ∧ FC I J ∧ CV (gK g) z J) := s9_sizes hw hv (fun J hs => ⟨rfl, hs.fc, hv.sc hw.1 hs⟩)
  refine r_callI hC (rmc := rm_X9_sizes) (a_V hC (k := 9) (c_X9_sizes hG h9) ci_X9_sizes gL_law_X9_sizes rfl ⟨(Nat.le_of_ble_eq_true rfl), (Nat.le_of_ble_eq_true rfl)⟩ ⟨by show cells + 0 ≤ 600000; omega, by show slots + 0 ≤ 7302249; omega⟩ rfl (by decide) hG.o.1 (List.mem_singleton.mp hG.o.2) rfl rfl (Nat.le_of_ble_eq_true rfl) dL_law_775) ⟨rfl, rfl⟩ rfl (fun r J hJ => ?_)
  obtain ⟨e9, hf, hv⟩ := hJ
  have hm := hm.fc hf
  refine r_aload_n hC dL_law_778 rfl rfl (j := 1) rfl ?_
  refine s_arg hX (k := 1) dL_law_779 dL_law_780 dL_law_781 dL_law_782 dL_law_783 rfl (by decide) hi (by decide) ?_
  have h10 : wp_X10_sizes (xs (i + 1)) J (fun r K => r = (v_sizes z (xs (i + 1))) ∧ FM J K ∧ MV z K) := s10_sizes hw hm (fun J hf hc => ⟨rfl, hf, hc⟩)
  refine r_callI hC (rmc := rm_X10_sizes) (a_V hC (k := 10) (c_X10_sizes hM h10) ci_X10_sizes gL_law_X10_sizes rfl ⟨(Nat.le_of_ble_eq_true rfl), (Nat.le_of_ble_eq_true rfl)⟩ ⟨by show cells + 0 ≤ 600000; omega, by show slots + 0 ≤ 7302249; omega⟩ rfl (by decide) hM.o.1 (List.mem_singleton.mp hM.o.2) rfl rfl (Nat.le_of_ble_eq_true rfl) dL_law_784) ⟨rfl, rfl⟩ rfl (fun r2 K hK2 => ?_)
  obtain ⟨e10, hf2, hm⟩ := hK2
  have hv := hv.fm hw.1 hf2
  refine r_icmp_eq hC (tgt := 1203) (P1 := True) (P2 := False) dL_law_787 rfl (by decide) (by rw [if_pos (e9.trans e10.symm)]; trivial) (fun _ => ?_) (fun h => h.elim)
  exact r_widen (by omega) (by omega) (kk g K z ⟨hw, hv, hm, hG, hM, rfl, rfl⟩)
set_option maxRecDepth 20000 in
theorem L_kinds {f : Fx} {b L : Nat} {xs : Nat → Int32} {cells slots : Nat} {g : Gm} {I : Mm} {z : St} {i a1 a2 : Nat} (hX : Lx f b L xs) (hJ : JV a1 a2 z g I) (hi : i + 7 ≤ L) (h1 : cells + 8 ≤ 600000) (h2 : slots + 52 ≤ 7302249) (kk : ∀ g' I' z', JV a1 a2 z' g' I' → PW f (cells + 8) (slots + 52) g' I' 1203 (lvL b a1 a2 i) []) : PW f cells slots g I 792 (lvL b a1 a2 i) [] := by
  obtain ⟨hw, hv, hm, hG, hM, rfl, rfl⟩ := hJ
  have hC := hX.1
  refine r_aload_n hC dL_law_792 rfl rfl (j := 2) rfl ?_
  refine s_arg hX (k := 1) dL_law_793 dL_law_794 dL_law_795 dL_law_796 dL_law_797 rfl (by decide) hi (by decide) ?_
  have h9 : wp_X9_kinds (gK g) (s_n z) (xs (i + 1)) I (fun r J => r = (v_kinds z (xs (i + 1))) ∧ FC I J ∧ CV (gK g) z J) := s9_kinds hw hv (fun J hs => ⟨rfl, hs.fc, hv.sc hw.1 hs⟩)
  refine r_callI hC (rmc := rm_X9_kinds) (a_V hC (k := 9) (c_X9_kinds hG h9) ci_X9_kinds gL_law_X9_kinds rfl ⟨(Nat.le_of_ble_eq_true rfl), (Nat.le_of_ble_eq_true rfl)⟩ ⟨by show cells + 0 ≤ 600000; omega, by show slots + 0 ≤ 7302249; omega⟩ rfl (by decide) hG.o.1 (List.mem_singleton.mp hG.o.2) rfl rfl (Nat.le_of_ble_eq_true rfl) dL_law_798) ⟨rfl, rfl⟩ rfl (fun r J hJ => ?_)
  obtain ⟨e9, hf, hv⟩ := hJ
  have hm := hm.fc hf
  refine r_aload_n hC dL_law_801 rfl rfl (j := 1) rfl ?_
  refine s_arg hX (k := 1) dL_law_802 dL_law_803 dL_law_804 dL_law_805 dL_law_806 rfl (by decide) hi (by decide) ?_
  have h10 : wp_X10_kinds (xs (i + 1)) J (fun r K => r = (v_kinds z (xs (i + 1))) ∧ FM J K ∧ MV z K) := s10_kinds hw hm (fun J hf hc => ⟨rfl, hf, hc⟩)
  refine r_callI hC (rmc := rm_X10_kinds) (a_V hC (k := 10) (c_X10_kinds hM h10) ci_X10_kinds gL_law_X10_kinds rfl ⟨(Nat.le_of_ble_eq_true rfl), (Nat.le_of_ble_eq_true rfl)⟩ ⟨by show cells + 0 ≤ 600000; omega, by show slots + 0 ≤ 7302249; omega⟩ rfl (by decide) hM.o.1 (List.mem_singleton.mp hM.o.2) rfl rfl (Nat.le_of_ble_eq_true rfl) dL_law_807) ⟨rfl, rfl⟩ rfl (fun r2 K hK2 => ?_)
  obtain ⟨e10, hf2, hm⟩ := hK2
  have hv := hv.fm hw.1 hf2
  refine r_icmp_eq hC (tgt := 1203) (P1 := True) (P2 := False) dL_law_810 rfl (by decide) (by rw [if_pos (e9.trans e10.symm)]; trivial) (fun _ => ?_) (fun h => h.elim)
  exact r_widen (by omega) (by omega) (kk g K z ⟨hw, hv, hm, hG, hM, rfl, rfl⟩)
set_option maxRecDepth 20000 in
theorem L_odds {f : Fx} {b L : Nat} {xs : Nat → Int32} {cells slots : Nat} {g : Gm} {I : Mm} {z : St} {i a1 a2 : Nat} (hX : Lx f b L xs) (hJ : JV a1 a2 z g I) (hi : i + 7 ≤ L) (h1 : cells + 8 ≤ 600000) (h2 : slots + 52 ≤ 7302249) (kk : ∀ g' I' z', JV a1 a2 z' g' I' → PW f (cells + 8) (slots + 52) g' I' 1203 (lvL b a1 a2 i) []) : PW f cells slots g I 815 (lvL b a1 a2 i) [] := by
  obtain ⟨hw, hv, hm, hG, hM, rfl, rfl⟩ := hJ
  have hC := hX.1
  refine r_aload_n hC dL_law_815 rfl rfl (j := 2) rfl ?_
  refine s_arg hX (k := 1) dL_law_816 dL_law_817 dL_law_818 dL_law_819 dL_law_820 rfl (by decide) hi (by decide) ?_
  refine s_arg hX (k := 2) dL_law_821 dL_law_822 dL_law_823 dL_law_824 dL_law_825 rfl (by decide) hi (by decide) ?_
  refine s_arg hX (k := 3) dL_law_826 dL_law_827 dL_law_828 dL_law_829 dL_law_830 rfl (by decide) hi (by decide) ?_
  have h9 : wp_X9_odds (gK g) (s_n z) (xs (i + 1)) (xs (i + 2)) (xs (i + 3)) I (fun r J => r = (v_odds z (xs (i + 1)) (xs (i + 2)) (xs (i + 3))) ∧ FC I J ∧ CV (gK g) z J) := s9_odds hw hv (⟨rfl, FC.rf, hv⟩)
  refine r_callL hC (rmc := rm_X9_odds) (a_V hC (k := 9) (c_X9_odds hG h9) ci_X9_odds gL_law_X9_odds rfl ⟨(Nat.le_of_ble_eq_true rfl), (Nat.le_of_ble_eq_true rfl)⟩ ⟨by show cells + 0 ≤ 600000; omega, by show slots + 0 ≤ 7302249; omega⟩ rfl (by decide) hG.o.1 (List.mem_singleton.mp hG.o.2) rfl rfl (Nat.le_of_ble_eq_true rfl) dL_law_831) ⟨rfl, rfl⟩ rfl (fun r J hJ => ?_)
  obtain ⟨e9, hf, hv⟩ := hJ
  have hm := hm.fc hf
  refine r_aload_n hC dL_law_834 rfl rfl (j := 1) rfl ?_
  refine s_arg hX (k := 1) dL_law_835 dL_law_836 dL_law_837 dL_law_838 dL_law_839 rfl (by decide) hi (by decide) ?_
  refine s_arg hX (k := 2) dL_law_840 dL_law_841 dL_law_842 dL_law_843 dL_law_844 rfl (by decide) hi (by decide) ?_
  refine s_arg hX (k := 3) dL_law_845 dL_law_846 dL_law_847 dL_law_848 dL_law_849 rfl (by decide) hi (by decide) ?_
  have h10 : wp_X10_odds (xs (i + 1)) (xs (i + 2)) (xs (i + 3)) J (fun r K => r = (v_odds z (xs (i + 1)) (xs (i + 2)) (xs (i + 3))) ∧ FM J K ∧ MV z K) := s10_odds hw hm (fun J hs => ⟨rfl, hs.fm, hm.sm hs⟩)
  refine r_callL hC (rmc := rm_X10_odds) (a_V hC (k := 10) (c_X10_odds hM h10) ci_X10_odds gL_law_X10_odds rfl ⟨(Nat.le_of_ble_eq_true rfl), (Nat.le_of_ble_eq_true rfl)⟩ ⟨by show cells + 0 ≤ 600000; omega, by show slots + 0 ≤ 7302249; omega⟩ rfl (by decide) hM.o.1 (List.mem_singleton.mp hM.o.2) rfl rfl (Nat.le_of_ble_eq_true rfl) dL_law_850) ⟨rfl, rfl⟩ rfl (fun r2 K hK2 => ?_)
  obtain ⟨e10, hf2, hm⟩ := hK2
  have hv := hv.fm hw.1 hf2
  refine r_lcmp hC dL_law_853 rfl ?_
  refine r_if_eq hC (tgt := 1203) (P1 := True) (P2 := False) dL_law_854 rfl (by decide) (by rw [if_pos ((lg_cmp_eq _ _).mpr (e9.trans e10.symm))]; trivial) (fun _ => ?_) (fun h => h.elim)
  exact r_widen (by omega) (by omega) (kk g K z ⟨hw, hv, hm, hG, hM, rfl, rfl⟩)
set_option maxRecDepth 20000 in
theorem L_sheet {f : Fx} {b L : Nat} {xs : Nat → Int32} {cells slots : Nat} {g : Gm} {I : Mm} {z : St} {i a1 a2 : Nat} (hX : Lx f b L xs) (hJ : JV a1 a2 z g I) (hi : i + 7 ≤ L) (h1 : cells + 8 ≤ 600000) (h2 : slots + 52 ≤ 7302249) (kk : ∀ g' I' z', JV a1 a2 z' g' I' → PW f (cells + 8) (slots + 52) g' I' 1203 (lvL b a1 a2 i) []) : PW f cells slots g I 859 (lvL b a1 a2 i) [] := by
  obtain ⟨hw, hv, hm, hG, hM, rfl, rfl⟩ := hJ
  have hC := hX.1
  refine r_aload_n hC dL_law_859 rfl rfl (j := 2) rfl ?_
  refine s_arg hX (k := 1) dL_law_860 dL_law_861 dL_law_862 dL_law_863 dL_law_864 rfl (by decide) hi (by decide) ?_
  refine s_arg hX (k := 2) dL_law_865 dL_law_866 dL_law_867 dL_law_868 dL_law_869 rfl (by decide) hi (by decide) ?_
  refine s_arg hX (k := 3) dL_law_870 dL_law_871 dL_law_872 dL_law_873 dL_law_874 rfl (by decide) hi (by decide) ?_
  have h9 : wp_X9_sheet (gK g) (s_n z) (xs (i + 1)) (xs (i + 2)) (xs (i + 3)) I (fun r J => r = (u_sheet z (xs (i + 1)) (xs (i + 2)) (xs (i + 3))).1 ∧ FC I J ∧ CV (gK g) (u_sheet z (xs (i + 1)) (xs (i + 2)) (xs (i + 3))).2 J) := s9_sheet hw hv (fun J hf hc => ⟨rfl, hf, hc⟩)
  refine r_callI hC (rmc := rm_X9_sheet) (a_V hC (k := 9) (c_X9_sheet hG h9) ci_X9_sheet gL_law_X9_sheet rfl ⟨(Nat.le_of_ble_eq_true rfl), (Nat.le_of_ble_eq_true rfl)⟩ ⟨by show cells + 0 ≤ 600000; omega, by show slots + 0 ≤ 7302249; omega⟩ rfl (by decide) hG.o.1 (List.mem_singleton.mp hG.o.2) rfl rfl (Nat.le_of_ble_eq_true rfl) dL_law_875) ⟨rfl, rfl⟩ rfl (fun r J hJ => ?_)
  obtain ⟨e9, hf, hv⟩ := hJ
  have hm := hm.fc hf
  refine r_aload_n hC dL_law_878 rfl rfl (j := 1) rfl ?_
  refine s_arg hX (k := 1) dL_law_879 dL_law_880 dL_law_881 dL_law_882 dL_law_883 rfl (by decide) hi (by decide) ?_
  refine s_arg hX (k := 2) dL_law_884 dL_law_885 dL_law_886 dL_law_887 dL_law_888 rfl (by decide) hi (by decide) ?_
  refine s_arg hX (k := 3) dL_law_889 dL_law_890 dL_law_891 dL_law_892 dL_law_893 rfl (by decide) hi (by decide) ?_
  have h10 : wp_X10_sheet (xs (i + 1)) (xs (i + 2)) (xs (i + 3)) J (fun r K => r = (u_sheet z (xs (i + 1)) (xs (i + 2)) (xs (i + 3))).1 ∧ FM J K ∧ MV (u_sheet z (xs (i + 1)) (xs (i + 2)) (xs (i + 3))).2 K) := s10_sheet hw hm (fun J hf hc => ⟨rfl, hf, hc⟩)
  refine r_callI hC (rmc := rm_X10_sheet) (a_V hC (k := 10) (c_X10_sheet hM h10) ci_X10_sheet gL_law_X10_sheet rfl ⟨(Nat.le_of_ble_eq_true rfl), (Nat.le_of_ble_eq_true rfl)⟩ ⟨by show cells + 0 ≤ 600000; omega, by show slots + 0 ≤ 7302249; omega⟩ rfl (by decide) hM.o.1 (List.mem_singleton.mp hM.o.2) rfl rfl (Nat.le_of_ble_eq_true rfl) dL_law_894) ⟨rfl, rfl⟩ rfl (fun r2 K hK2 => ?_)
  obtain ⟨e10, hf2, hm⟩ := hK2
  have hv := CV.fm (z := (u_sheet z (xs (i + 1)) (xs (i + 2)) (xs (i + 3))).2) (wf_sheet hw).1 hf2 hv
  refine r_icmp_eq hC (tgt := 1203) (P1 := True) (P2 := False) dL_law_897 rfl (by decide) (by rw [if_pos (e9.trans e10.symm)]; trivial) (fun _ => ?_) (fun h => h.elim)
  exact r_widen (by omega) (by omega) (kk g K _ ⟨wf_sheet hw, hv, hm, by rw [ns_sheet]; exact hG, hM, rfl, rfl⟩)
set_option maxRecDepth 20000 in
theorem L_lose {f : Fx} {b L : Nat} {xs : Nat → Int32} {cells slots : Nat} {g : Gm} {I : Mm} {z : St} {i a1 a2 : Nat} (hX : Lx f b L xs) (hJ : JV a1 a2 z g I) (hi : i + 7 ≤ L) (h1 : cells + 8 ≤ 600000) (h2 : slots + 52 ≤ 7302249) (kk : ∀ g' I' z', JV a1 a2 z' g' I' → PW f (cells + 8) (slots + 52) g' I' 1203 (lvL b a1 a2 i) []) : PW f cells slots g I 902 (lvL b a1 a2 i) [] := by
  obtain ⟨hw, hv, hm, hG, hM, rfl, rfl⟩ := hJ
  have hC := hX.1
  refine r_aload_n hC dL_law_902 rfl rfl (j := 2) rfl ?_
  refine s_arg hX (k := 1) dL_law_903 dL_law_904 dL_law_905 dL_law_906 dL_law_907 rfl (by decide) hi (by decide) ?_
  have h9 : wp_X9_lose (gK g) (s_n z) (xs (i + 1)) I (fun r J => r = (u_lose z (xs (i + 1))).1 ∧ FC I J ∧ CV (gK g) (u_lose z (xs (i + 1))).2 J) := s9_lose hw hv (fun J hf hc => ⟨rfl, hf, hc⟩)
  refine r_callI hC (rmc := rm_X9_lose) (a_V hC (k := 9) (c_X9_lose hG h9) ci_X9_lose gL_law_X9_lose rfl ⟨(Nat.le_of_ble_eq_true rfl), (Nat.le_of_ble_eq_true rfl)⟩ ⟨by show cells + 0 ≤ 600000; omega, by show slots + 0 ≤ 7302249; omega⟩ rfl (by decide) hG.o.1 (List.mem_singleton.mp hG.o.2) rfl rfl (Nat.le_of_ble_eq_true rfl) dL_law_908) ⟨rfl, rfl⟩ rfl (fun r J hJ => ?_)
  obtain ⟨e9, hf, hv⟩ := hJ
  have hm := hm.fc hf
  refine r_aload_n hC dL_law_911 rfl rfl (j := 1) rfl ?_
  refine s_arg hX (k := 1) dL_law_912 dL_law_913 dL_law_914 dL_law_915 dL_law_916 rfl (by decide) hi (by decide) ?_
  have h10 : wp_X10_lose (xs (i + 1)) J (fun r K => r = (u_lose z (xs (i + 1))).1 ∧ FM J K ∧ MV (u_lose z (xs (i + 1))).2 K) := s10_lose hw hm (fun J hf hc => ⟨rfl, hf, hc⟩)
  refine r_callI hC (rmc := rm_X10_lose) (a_V hC (k := 10) (c_X10_lose hM h10) ci_X10_lose gL_law_X10_lose rfl ⟨(Nat.le_of_ble_eq_true rfl), (Nat.le_of_ble_eq_true rfl)⟩ ⟨by show cells + 0 ≤ 600000; omega, by show slots + 0 ≤ 7302249; omega⟩ rfl (by decide) hM.o.1 (List.mem_singleton.mp hM.o.2) rfl rfl (Nat.le_of_ble_eq_true rfl) dL_law_917) ⟨rfl, rfl⟩ rfl (fun r2 K hK2 => ?_)
  obtain ⟨e10, hf2, hm⟩ := hK2
  have hv := CV.fm (z := (u_lose z (xs (i + 1))).2) (wf_lose hw).1 hf2 hv
  refine r_icmp_eq hC (tgt := 1203) (P1 := True) (P2 := False) dL_law_920 rfl (by decide) (by rw [if_pos (e9.trans e10.symm)]; trivial) (fun _ => ?_) (fun h => h.elim)
  exact r_widen (by omega) (by omega) (kk g K _ ⟨wf_lose hw, hv, hm, by rw [ns_lose]; exact hG, hM, rfl, rfl⟩)
set_option maxRecDepth 20000 in
theorem L_put {f : Fx} {b L : Nat} {xs : Nat → Int32} {cells slots : Nat} {g : Gm} {I : Mm} {z : St} {i a1 a2 : Nat} (hX : Lx f b L xs) (hJ : JV a1 a2 z g I) (hi : i + 7 ≤ L) (h1 : cells + 8 ≤ 600000) (h2 : slots + 52 ≤ 7302249) (kk : ∀ g' I' z', JV a1 a2 z' g' I' → PW f (cells + 8) (slots + 52) g' I' 1203 (lvL b a1 a2 i) []) : PW f cells slots g I 925 (lvL b a1 a2 i) [] := by
  obtain ⟨hw, hv, hm, hG, hM, rfl, rfl⟩ := hJ
  have hC := hX.1
  refine r_aload_n hC dL_law_925 rfl rfl (j := 2) rfl ?_
  refine s_arg hX (k := 1) dL_law_926 dL_law_927 dL_law_928 dL_law_929 dL_law_930 rfl (by decide) hi (by decide) ?_
  refine s_arg hX (k := 2) dL_law_931 dL_law_932 dL_law_933 dL_law_934 dL_law_935 rfl (by decide) hi (by decide) ?_
  refine s_arg hX (k := 3) dL_law_936 dL_law_937 dL_law_938 dL_law_939 dL_law_940 rfl (by decide) hi (by decide) ?_
  have h9 : wp_X9_put (gK g) (s_n z) (xs (i + 1)) (xs (i + 2)) (xs (i + 3)) I (fun r J => r = (u_put z (xs (i + 1)) (xs (i + 2)) (xs (i + 3))).1 ∧ FC I J ∧ CV (gK g) (u_put z (xs (i + 1)) (xs (i + 2)) (xs (i + 3))).2 J) := s9_put hw hv (fun J hf hc => ⟨rfl, hf, hc⟩)
  refine r_callI hC (rmc := rm_X9_put) (a_V hC (k := 9) (c_X9_put hG h9) ci_X9_put gL_law_X9_put rfl ⟨(Nat.le_of_ble_eq_true rfl), (Nat.le_of_ble_eq_true rfl)⟩ ⟨by show cells + 0 ≤ 600000; omega, by show slots + 0 ≤ 7302249; omega⟩ rfl (by decide) hG.o.1 (List.mem_singleton.mp hG.o.2) rfl rfl (Nat.le_of_ble_eq_true rfl) dL_law_941) ⟨rfl, rfl⟩ rfl (fun r J hJ => ?_)
  obtain ⟨e9, hf, hv⟩ := hJ
  have hm := hm.fc hf
  refine r_aload_n hC dL_law_944 rfl rfl (j := 1) rfl ?_
  refine s_arg hX (k := 1) dL_law_945 dL_law_946 dL_law_947 dL_law_948 dL_law_949 rfl (by decide) hi (by decide) ?_
  refine s_arg hX (k := 2) dL_law_950 dL_law_951 dL_law_952 dL_law_953 dL_law_954 rfl (by decide) hi (by decide) ?_
  refine s_arg hX (k := 3) dL_law_955 dL_law_956 dL_law_957 dL_law_958 dL_law_959 rfl (by decide) hi (by decide) ?_
  have h10 : wp_X10_put (xs (i + 1)) (xs (i + 2)) (xs (i + 3)) J (fun r K => r = (u_put z (xs (i + 1)) (xs (i + 2)) (xs (i + 3))).1 ∧ FM J K ∧ MV (u_put z (xs (i + 1)) (xs (i + 2)) (xs (i + 3))).2 K) := s10_put hw hm (fun J hf hc => ⟨rfl, hf, hc⟩)
  refine r_callI hC (rmc := rm_X10_put) (a_V hC (k := 10) (c_X10_put hM h10) ci_X10_put gL_law_X10_put rfl ⟨(Nat.le_of_ble_eq_true rfl), (Nat.le_of_ble_eq_true rfl)⟩ ⟨by show cells + 0 ≤ 600000; omega, by show slots + 0 ≤ 7302249; omega⟩ rfl (by decide) hM.o.1 (List.mem_singleton.mp hM.o.2) rfl rfl (Nat.le_of_ble_eq_true rfl) dL_law_960) ⟨rfl, rfl⟩ rfl (fun r2 K hK2 => ?_)
  obtain ⟨e10, hf2, hm⟩ := hK2
  have hv := CV.fm (z := (u_put z (xs (i + 1)) (xs (i + 2)) (xs (i + 3))).2) (wf_put hw).1 hf2 hv
  refine r_icmp_eq hC (tgt := 1203) (P1 := True) (P2 := False) dL_law_963 rfl (by decide) (by rw [if_pos (e9.trans e10.symm)]; trivial) (fun _ => ?_) (fun h => h.elim)
  exact r_widen (by omega) (by omega) (kk g K _ ⟨wf_put hw, hv, hm, by rw [ns_put]; exact hG, hM, rfl, rfl⟩)
set_option maxRecDepth 20000 in
theorem L_cell {f : Fx} {b L : Nat} {xs : Nat → Int32} {cells slots : Nat} {g : Gm} {I : Mm} {z : St} {i a1 a2 : Nat} (hX : Lx f b L xs) (hJ : JV a1 a2 z g I) (hi : i + 7 ≤ L) (h1 : cells + 8 ≤ 600000) (h2 : slots + 52 ≤ 7302249) (kk : ∀ g' I' z', JV a1 a2 z' g' I' → PW f (cells + 8) (slots + 52) g' I' 1203 (lvL b a1 a2 i) []) : PW f cells slots g I 968 (lvL b a1 a2 i) [] := by
  obtain ⟨hw, hv, hm, hG, hM, rfl, rfl⟩ := hJ
  have hC := hX.1
  refine r_aload_n hC dL_law_968 rfl rfl (j := 2) rfl ?_
  refine s_arg hX (k := 1) dL_law_969 dL_law_970 dL_law_971 dL_law_972 dL_law_973 rfl (by decide) hi (by decide) ?_
  refine s_arg hX (k := 2) dL_law_974 dL_law_975 dL_law_976 dL_law_977 dL_law_978 rfl (by decide) hi (by decide) ?_
  refine s_arg hX (k := 3) dL_law_979 dL_law_980 dL_law_981 dL_law_982 dL_law_983 rfl (by decide) hi (by decide) ?_
  have h9 : wp_X9_cell (gK g) (s_n z) (xs (i + 1)) (xs (i + 2)) (xs (i + 3)) I (fun r J => r = (u_cell z (xs (i + 1)) (xs (i + 2)) (xs (i + 3))).1 ∧ FC I J ∧ CV (gK g) (u_cell z (xs (i + 1)) (xs (i + 2)) (xs (i + 3))).2 J) := s9_cell hw hv (fun J hf hc => ⟨rfl, hf, hc⟩)
  refine r_callL hC (rmc := rm_X9_cell) (a_V hC (k := 9) (c_X9_cell hG h9) ci_X9_cell gL_law_X9_cell rfl ⟨(Nat.le_of_ble_eq_true rfl), (Nat.le_of_ble_eq_true rfl)⟩ ⟨by show cells + 0 ≤ 600000; omega, by show slots + 0 ≤ 7302249; omega⟩ rfl (by decide) hG.o.1 (List.mem_singleton.mp hG.o.2) rfl rfl (Nat.le_of_ble_eq_true rfl) dL_law_984) ⟨rfl, rfl⟩ rfl (fun r J hJ => ?_)
  obtain ⟨e9, hf, hv⟩ := hJ
  have hm := hm.fc hf
  refine r_aload_n hC dL_law_987 rfl rfl (j := 1) rfl ?_
  refine s_arg hX (k := 1) dL_law_988 dL_law_989 dL_law_990 dL_law_991 dL_law_992 rfl (by decide) hi (by decide) ?_
  refine s_arg hX (k := 2) dL_law_993 dL_law_994 dL_law_995 dL_law_996 dL_law_997 rfl (by decide) hi (by decide) ?_
  refine s_arg hX (k := 3) dL_law_998 dL_law_999 dL_law_1000 dL_law_1001 dL_law_1002 rfl (by decide) hi (by decide) ?_
  have h10 : wp_X10_cell (xs (i + 1)) (xs (i + 2)) (xs (i + 3)) J (fun r K => r = (u_cell z (xs (i + 1)) (xs (i + 2)) (xs (i + 3))).1 ∧ FM J K ∧ MV (u_cell z (xs (i + 1)) (xs (i + 2)) (xs (i + 3))).2 K) := s10_cell hw hm (fun J hf hc => ⟨rfl, hf, hc⟩)
  refine r_callL hC (rmc := rm_X10_cell) (a_V hC (k := 10) (c_X10_cell hM h10) ci_X10_cell gL_law_X10_cell rfl ⟨(Nat.le_of_ble_eq_true rfl), (Nat.le_of_ble_eq_true rfl)⟩ ⟨by show cells + 0 ≤ 600000; omega, by show slots + 0 ≤ 7302249; omega⟩ rfl (by decide) hM.o.1 (List.mem_singleton.mp hM.o.2) rfl rfl (Nat.le_of_ble_eq_true rfl) dL_law_1003) ⟨rfl, rfl⟩ rfl (fun r2 K hK2 => ?_)
  obtain ⟨e10, hf2, hm⟩ := hK2
  have hv := CV.fm (z := (u_cell z (xs (i + 1)) (xs (i + 2)) (xs (i + 3))).2) (wf_cell hw).1 hf2 hv
  refine r_lcmp hC dL_law_1006 rfl ?_
  refine r_if_eq hC (tgt := 1203) (P1 := True) (P2 := False) dL_law_1007 rfl (by decide) (by rw [if_pos ((lg_cmp_eq _ _).mpr (e9.trans e10.symm))]; trivial) (fun _ => ?_) (fun h => h.elim)
  exact r_widen (by omega) (by omega) (kk g K _ ⟨wf_cell hw, hv, hm, by rw [ns_cell]; exact hG, hM, rfl, rfl⟩)
set_option maxRecDepth 20000 in
theorem L_copy {f : Fx} {b L : Nat} {xs : Nat → Int32} {cells slots : Nat} {g : Gm} {I : Mm} {z : St} {i a1 a2 : Nat} (hX : Lx f b L xs) (hJ : JV a1 a2 z g I) (hi : i + 7 ≤ L) (h1 : cells + 8 ≤ 600000) (h2 : slots + 52 ≤ 7302249) (kk : ∀ g' I' z', JV a1 a2 z' g' I' → PW f (cells + 8) (slots + 52) g' I' 1203 (lvL b a1 a2 i) []) : PW f cells slots g I 1012 (lvL b a1 a2 i) [] := by
  obtain ⟨hw, hv, hm, hG, hM, rfl, rfl⟩ := hJ
  have hC := hX.1
  refine r_aload_n hC dL_law_1012 rfl rfl (j := 2) rfl ?_
  refine s_arg hX (k := 1) dL_law_1013 dL_law_1014 dL_law_1015 dL_law_1016 dL_law_1017 rfl (by decide) hi (by decide) ?_
  refine s_arg hX (k := 2) dL_law_1018 dL_law_1019 dL_law_1020 dL_law_1021 dL_law_1022 rfl (by decide) hi (by decide) ?_
  refine s_arg hX (k := 3) dL_law_1023 dL_law_1024 dL_law_1025 dL_law_1026 dL_law_1027 rfl (by decide) hi (by decide) ?_
  refine s_arg hX (k := 4) dL_law_1028 dL_law_1029 dL_law_1030 dL_law_1031 dL_law_1032 rfl (by decide) hi (by decide) ?_
  refine s_arg hX (k := 5) dL_law_1033 dL_law_1034 dL_law_1035 dL_law_1036 dL_law_1037 rfl (by decide) hi (by decide) ?_
  have h9 : wp_X9_copy (gK g) (s_n z) (xs (i + 1)) (xs (i + 2)) (xs (i + 3)) (xs (i + 4)) (xs (i + 5)) I (fun r J => r = (u_copy z (xs (i + 1)) (xs (i + 2)) (xs (i + 3)) (xs (i + 4)) (xs (i + 5))).1 ∧ FC I J ∧ CV (gK g) (u_copy z (xs (i + 1)) (xs (i + 2)) (xs (i + 3)) (xs (i + 4)) (xs (i + 5))).2 J) := s9_copy hw hv (fun J hf hc => ⟨rfl, hf, hc⟩)
  refine r_callI hC (rmc := rm_X9_copy) (a_V hC (k := 9) (c_X9_copy hG h9) ci_X9_copy gL_law_X9_copy rfl ⟨(Nat.le_of_ble_eq_true rfl), (Nat.le_of_ble_eq_true rfl)⟩ ⟨by show cells + 0 ≤ 600000; omega, by show slots + 0 ≤ 7302249; omega⟩ rfl (by decide) hG.o.1 (List.mem_singleton.mp hG.o.2) rfl rfl (Nat.le_of_ble_eq_true rfl) dL_law_1038) ⟨rfl, rfl⟩ rfl (fun r J hJ => ?_)
  obtain ⟨e9, hf, hv⟩ := hJ
  have hm := hm.fc hf
  refine r_aload_n hC dL_law_1041 rfl rfl (j := 1) rfl ?_
  refine s_arg hX (k := 1) dL_law_1042 dL_law_1043 dL_law_1044 dL_law_1045 dL_law_1046 rfl (by decide) hi (by decide) ?_
  refine s_arg hX (k := 2) dL_law_1047 dL_law_1048 dL_law_1049 dL_law_1050 dL_law_1051 rfl (by decide) hi (by decide) ?_
  refine s_arg hX (k := 3) dL_law_1052 dL_law_1053 dL_law_1054 dL_law_1055 dL_law_1056 rfl (by decide) hi (by decide) ?_
  refine s_arg hX (k := 4) dL_law_1057 dL_law_1058 dL_law_1059 dL_law_1060 dL_law_1061 rfl (by decide) hi (by decide) ?_
  refine s_arg hX (k := 5) dL_law_1062 dL_law_1063 dL_law_1064 dL_law_1065 dL_law_1066 rfl (by decide) hi (by decide) ?_
  have h10 : wp_X10_copy (xs (i + 1)) (xs (i + 2)) (xs (i + 3)) (xs (i + 4)) (xs (i + 5)) J (fun r K => r = (u_copy z (xs (i + 1)) (xs (i + 2)) (xs (i + 3)) (xs (i + 4)) (xs (i + 5))).1 ∧ FM J K ∧ MV (u_copy z (xs (i + 1)) (xs (i + 2)) (xs (i + 3)) (xs (i + 4)) (xs (i + 5))).2 K) := s10_copy hw hm (fun J hf hc => ⟨rfl, hf, hc⟩)
  refine r_callI hC (rmc := rm_X10_copy) (a_V hC (k := 10) (c_X10_copy hM h10) ci_X10_copy gL_law_X10_copy rfl ⟨(Nat.le_of_ble_eq_true rfl), (Nat.le_of_ble_eq_true rfl)⟩ ⟨by show cells + 0 ≤ 600000; omega, by show slots + 0 ≤ 7302249; omega⟩ rfl (by decide) hM.o.1 (List.mem_singleton.mp hM.o.2) rfl rfl (Nat.le_of_ble_eq_true rfl) dL_law_1067) ⟨rfl, rfl⟩ rfl (fun r2 K hK2 => ?_)
  obtain ⟨e10, hf2, hm⟩ := hK2
  have hv := CV.fm (z := (u_copy z (xs (i + 1)) (xs (i + 2)) (xs (i + 3)) (xs (i + 4)) (xs (i + 5))).2) (wf_copy hw).1 hf2 hv
  refine r_icmp_eq hC (tgt := 1203) (P1 := True) (P2 := False) dL_law_1070 rfl (by decide) (by rw [if_pos (e9.trans e10.symm)]; trivial) (fun _ => ?_) (fun h => h.elim)
  exact r_widen (by omega) (by omega) (kk g K _ ⟨wf_copy hw, hv, hm, by rw [ns_copy]; exact hG, hM, rfl, rfl⟩)
set_option maxRecDepth 20000 in
theorem L_tell {f : Fx} {b L : Nat} {xs : Nat → Int32} {cells slots : Nat} {g : Gm} {I : Mm} {z : St} {i a1 a2 : Nat} (hX : Lx f b L xs) (hJ : JV a1 a2 z g I) (hi : i + 7 ≤ L) (h1 : cells + 8 ≤ 600000) (h2 : slots + 52 ≤ 7302249) (kk : ∀ g' I' z', JV a1 a2 z' g' I' → PW f (cells + 8) (slots + 52) g' I' 1203 (lvL b a1 a2 i) []) : PW f cells slots g I 1075 (lvL b a1 a2 i) [] := by
  obtain ⟨hw, hv, hm, hG, hM, rfl, rfl⟩ := hJ
  have hC := hX.1
  refine r_aload_n hC dL_law_1075 rfl rfl (j := 2) rfl ?_
  refine s_arg hX (k := 1) dL_law_1076 dL_law_1077 dL_law_1078 dL_law_1079 dL_law_1080 rfl (by decide) hi (by decide) ?_
  have h9 : wp_X9_tell (gK g) (s_n z) (xs (i + 1)) I (fun r J => r = (u_tell z (xs (i + 1))).1 ∧ FC I J ∧ CV (gK g) (u_tell z (xs (i + 1))).2 J) := s9_tell hw hv (fun J hf hc => ⟨rfl, hf, hc⟩)
  refine r_callI hC (rmc := rm_X9_tell) (a_V hC (k := 9) (c_X9_tell hG h9) ci_X9_tell gL_law_X9_tell rfl ⟨(Nat.le_of_ble_eq_true rfl), (Nat.le_of_ble_eq_true rfl)⟩ ⟨by show cells + 0 ≤ 600000; omega, by show slots + 0 ≤ 7302249; omega⟩ rfl (by decide) hG.o.1 (List.mem_singleton.mp hG.o.2) rfl rfl (Nat.le_of_ble_eq_true rfl) dL_law_1081) ⟨rfl, rfl⟩ rfl (fun r J hJ => ?_)
  obtain ⟨e9, hf, hv⟩ := hJ
  have hm := hm.fc hf
  refine r_aload_n hC dL_law_1084 rfl rfl (j := 1) rfl ?_
  refine s_arg hX (k := 1) dL_law_1085 dL_law_1086 dL_law_1087 dL_law_1088 dL_law_1089 rfl (by decide) hi (by decide) ?_
  have h10 : wp_X10_tell (xs (i + 1)) J (fun r K => r = (u_tell z (xs (i + 1))).1 ∧ FM J K ∧ MV (u_tell z (xs (i + 1))).2 K) := s10_tell hw hm (fun J hf hc => ⟨rfl, hf, hc⟩)
  refine r_callI hC (rmc := rm_X10_tell) (a_V hC (k := 10) (c_X10_tell hM h10) ci_X10_tell gL_law_X10_tell rfl ⟨(Nat.le_of_ble_eq_true rfl), (Nat.le_of_ble_eq_true rfl)⟩ ⟨by show cells + 0 ≤ 600000; omega, by show slots + 0 ≤ 7302249; omega⟩ rfl (by decide) hM.o.1 (List.mem_singleton.mp hM.o.2) rfl rfl (Nat.le_of_ble_eq_true rfl) dL_law_1090) ⟨rfl, rfl⟩ rfl (fun r2 K hK2 => ?_)
  obtain ⟨e10, hf2, hm⟩ := hK2
  have hv := CV.fm (z := (u_tell z (xs (i + 1))).2) (wf_tell hw).1 hf2 hv
  refine r_icmp_eq hC (tgt := 1203) (P1 := True) (P2 := False) dL_law_1093 rfl (by decide) (by rw [if_pos (e9.trans e10.symm)]; trivial) (fun _ => ?_) (fun h => h.elim)
  exact r_widen (by omega) (by omega) (kk g K _ ⟨wf_tell hw, hv, hm, by rw [ns_tell]; exact hG, hM, rfl, rfl⟩)
set_option maxRecDepth 20000 in
theorem L_tally {f : Fx} {b L : Nat} {xs : Nat → Int32} {cells slots : Nat} {g : Gm} {I : Mm} {z : St} {i a1 a2 : Nat} (hX : Lx f b L xs) (hJ : JV a1 a2 z g I) (hi : i + 7 ≤ L) (h1 : cells + 8 ≤ 600000) (h2 : slots + 52 ≤ 7302249) (kk : ∀ g' I' z', JV a1 a2 z' g' I' → PW f (cells + 8) (slots + 52) g' I' 1203 (lvL b a1 a2 i) []) : PW f cells slots g I 1098 (lvL b a1 a2 i) [] := by
  obtain ⟨hw, hv, hm, hG, hM, rfl, rfl⟩ := hJ
  have hC := hX.1
  refine r_aload_n hC dL_law_1098 rfl rfl (j := 2) rfl ?_
  refine s_arg hX (k := 1) dL_law_1099 dL_law_1100 dL_law_1101 dL_law_1102 dL_law_1103 rfl (by decide) hi (by decide) ?_
  have h9 : wp_X9_tally (gK g) (s_n z) (xs (i + 1)) I (fun r J => r = (u_tally z (xs (i + 1))).1 ∧ FC I J ∧ CV (gK g) (u_tally z (xs (i + 1))).2 J) := s9_tally hw hv (fun J hf hc => ⟨rfl, hf, hc⟩)
  refine r_callI hC (rmc := rm_X9_tally) (a_V hC (k := 9) (c_X9_tally hG h9) ci_X9_tally gL_law_X9_tally rfl ⟨(Nat.le_of_ble_eq_true rfl), (Nat.le_of_ble_eq_true rfl)⟩ ⟨by show cells + 0 ≤ 600000; omega, by show slots + 0 ≤ 7302249; omega⟩ rfl (by decide) hG.o.1 (List.mem_singleton.mp hG.o.2) rfl rfl (Nat.le_of_ble_eq_true rfl) dL_law_1104) ⟨rfl, rfl⟩ rfl (fun r J hJ => ?_)
  obtain ⟨e9, hf, hv⟩ := hJ
  have hm := hm.fc hf
  refine r_aload_n hC dL_law_1107 rfl rfl (j := 1) rfl ?_
  refine s_arg hX (k := 1) dL_law_1108 dL_law_1109 dL_law_1110 dL_law_1111 dL_law_1112 rfl (by decide) hi (by decide) ?_
  have h10 : wp_X10_tally (xs (i + 1)) J (fun r K => r = (u_tally z (xs (i + 1))).1 ∧ FM J K ∧ MV (u_tally z (xs (i + 1))).2 K) := s10_tally hw hm (fun J hf hc => ⟨rfl, hf, hc⟩)
  refine r_callI hC (rmc := rm_X10_tally) (a_V hC (k := 10) (c_X10_tally hM h10) ci_X10_tally gL_law_X10_tally rfl ⟨(Nat.le_of_ble_eq_true rfl), (Nat.le_of_ble_eq_true rfl)⟩ ⟨by show cells + 0 ≤ 600000; omega, by show slots + 0 ≤ 7302249; omega⟩ rfl (by decide) hM.o.1 (List.mem_singleton.mp hM.o.2) rfl rfl (Nat.le_of_ble_eq_true rfl) dL_law_1113) ⟨rfl, rfl⟩ rfl (fun r2 K hK2 => ?_)
  obtain ⟨e10, hf2, hm⟩ := hK2
  have hv := CV.fm (z := (u_tally z (xs (i + 1))).2) (wf_tally hw).1 hf2 hv
  refine r_icmp_eq hC (tgt := 1203) (P1 := True) (P2 := False) dL_law_1116 rfl (by decide) (by rw [if_pos (e9.trans e10.symm)]; trivial) (fun _ => ?_) (fun h => h.elim)
  exact r_widen (by omega) (by omega) (kk g K _ ⟨wf_tally hw, hv, hm, by rw [ns_tally]; exact hG, hM, rfl, rfl⟩)
set_option maxRecDepth 20000 in
theorem L_as {f : Fx} {b L : Nat} {xs : Nat → Int32} {cells slots : Nat} {g : Gm} {I : Mm} {z : St} {i a1 a2 : Nat} (hX : Lx f b L xs) (hJ : JV a1 a2 z g I) (hi : i + 7 ≤ L) (h1 : cells + 8 ≤ 600000) (h2 : slots + 52 ≤ 7302249) (kk : ∀ g' I' z', JV a1 a2 z' g' I' → PW f (cells + 8) (slots + 52) g' I' 1203 (lvL b a1 a2 i) []) : PW f cells slots g I 1121 (lvL b a1 a2 i) [] := by
  obtain ⟨hw, hv, hm, hG, hM, rfl, rfl⟩ := hJ
  have hC := hX.1
  refine r_aload_n hC dL_law_1121 rfl rfl (j := 2) rfl ?_
  refine s_arg hX (k := 1) dL_law_1122 dL_law_1123 dL_law_1124 dL_law_1125 dL_law_1126 rfl (by decide) hi (by decide) ?_
  refine s_arg hX (k := 2) dL_law_1127 dL_law_1128 dL_law_1129 dL_law_1130 dL_law_1131 rfl (by decide) hi (by decide) ?_
  have h9 : wp_X9_as (gK g) (s_n z) (xs (i + 1)) (xs (i + 2)) I (fun r J => r = (u_as z (xs (i + 1)) (xs (i + 2))).1 ∧ FC I J ∧ CV (gK g) (u_as z (xs (i + 1)) (xs (i + 2))).2 J) := s9_as hw hv (fun J hf hc => ⟨rfl, hf, hc⟩)
  refine r_callI hC (rmc := rm_X9_as) (a_V hC (k := 9) (c_X9_as hG h9) ci_X9_as gL_law_X9_as rfl ⟨(Nat.le_of_ble_eq_true rfl), (Nat.le_of_ble_eq_true rfl)⟩ ⟨by show cells + 0 ≤ 600000; omega, by show slots + 0 ≤ 7302249; omega⟩ rfl (by decide) hG.o.1 (List.mem_singleton.mp hG.o.2) rfl rfl (Nat.le_of_ble_eq_true rfl) dL_law_1132) ⟨rfl, rfl⟩ rfl (fun r J hJ => ?_)
  obtain ⟨e9, hf, hv⟩ := hJ
  have hm := hm.fc hf
  refine r_aload_n hC dL_law_1135 rfl rfl (j := 1) rfl ?_
  refine s_arg hX (k := 1) dL_law_1136 dL_law_1137 dL_law_1138 dL_law_1139 dL_law_1140 rfl (by decide) hi (by decide) ?_
  refine s_arg hX (k := 2) dL_law_1141 dL_law_1142 dL_law_1143 dL_law_1144 dL_law_1145 rfl (by decide) hi (by decide) ?_
  have h10 : wp_X10_as (xs (i + 1)) (xs (i + 2)) J (fun r K => r = (u_as z (xs (i + 1)) (xs (i + 2))).1 ∧ FM J K ∧ MV (u_as z (xs (i + 1)) (xs (i + 2))).2 K) := s10_as hw hm (fun J hf hc => ⟨rfl, hf, hc⟩)
  refine r_callI hC (rmc := rm_X10_as) (a_V hC (k := 10) (c_X10_as hM h10) ci_X10_as gL_law_X10_as rfl ⟨(Nat.le_of_ble_eq_true rfl), (Nat.le_of_ble_eq_true rfl)⟩ ⟨by show cells + 0 ≤ 600000; omega, by show slots + 0 ≤ 7302249; omega⟩ rfl (by decide) hM.o.1 (List.mem_singleton.mp hM.o.2) rfl rfl (Nat.le_of_ble_eq_true rfl) dL_law_1146) ⟨rfl, rfl⟩ rfl (fun r2 K hK2 => ?_)
  obtain ⟨e10, hf2, hm⟩ := hK2
  have hv := CV.fm (z := (u_as z (xs (i + 1)) (xs (i + 2))).2) (wf_as hw).1 hf2 hv
  refine r_icmp_eq hC (tgt := 1203) (P1 := True) (P2 := False) dL_law_1149 rfl (by decide) (by rw [if_pos (e9.trans e10.symm)]; trivial) (fun _ => ?_) (fun h => h.elim)
  exact r_widen (by omega) (by omega) (kk g K _ ⟨wf_as hw, hv, hm, by rw [ns_as]; exact hG, hM, rfl, rfl⟩)
set_option maxRecDepth 20000 in
theorem L_trace {f : Fx} {b L : Nat} {xs : Nat → Int32} {cells slots : Nat} {g : Gm} {I : Mm} {z : St} {i a1 a2 : Nat} (hX : Lx f b L xs) (hJ : JV a1 a2 z g I) (hi : i + 7 ≤ L) (h1 : cells + 8 ≤ 600000) (h2 : slots + 52 ≤ 7302249) (kk : ∀ g' I' z', JV a1 a2 z' g' I' → PW f (cells + 8) (slots + 52) g' I' 1203 (lvL b a1 a2 i) []) : PW f cells slots g I 1154 (lvL b a1 a2 i) [] := by
  obtain ⟨hw, hv, hm, hG, hM, rfl, rfl⟩ := hJ
  have hC := hX.1
  refine r_aload_n hC dL_law_1154 rfl rfl (j := 2) rfl ?_
  have h9 : wp_X9_trace (gK g) (s_n z) I (fun r J => r = (s_x z) ∧ FC I J ∧ CV (gK g) z J) := s9_trace hv (⟨rfl, FC.rf, hv⟩)
  refine r_callI hC (rmc := rm_X9_trace) (a_V hC (k := 9) (c_X9_trace hG h9) ci_X9_trace gL_law_X9_trace rfl ⟨(Nat.le_of_ble_eq_true rfl), (Nat.le_of_ble_eq_true rfl)⟩ ⟨by show cells + 0 ≤ 600000; omega, by show slots + 0 ≤ 7302249; omega⟩ rfl (by decide) hG.o.1 (List.mem_singleton.mp hG.o.2) rfl rfl (Nat.le_of_ble_eq_true rfl) dL_law_1155) ⟨rfl, rfl⟩ rfl (fun r J hJ => ?_)
  obtain ⟨e9, hf, hv⟩ := hJ
  have hm := hm.fc hf
  refine r_aload_n hC dL_law_1158 rfl rfl (j := 1) rfl ?_
  have h10 : wp_X10_trace J (fun r K => r = (s_x z) ∧ FM J K ∧ MV z K) := s10_trace hm (⟨rfl, FM.rf, hm⟩)
  refine r_callI hC (rmc := rm_X10_trace) (a_V hC (k := 10) (c_X10_trace hM h10) ci_X10_trace gL_law_X10_trace rfl ⟨(Nat.le_of_ble_eq_true rfl), (Nat.le_of_ble_eq_true rfl)⟩ ⟨by show cells + 0 ≤ 600000; omega, by show slots + 0 ≤ 7302249; omega⟩ rfl (by decide) hM.o.1 (List.mem_singleton.mp hM.o.2) rfl rfl (Nat.le_of_ble_eq_true rfl) dL_law_1159) ⟨rfl, rfl⟩ rfl (fun r2 K hK2 => ?_)
  obtain ⟨e10, hf2, hm⟩ := hK2
  have hv := hv.fm hw.1 hf2
  refine r_icmp_eq hC (tgt := 1203) (P1 := True) (P2 := False) dL_law_1162 rfl (by decide) (by rw [if_pos (e9.trans e10.symm)]; trivial) (fun _ => ?_) (fun h => h.elim)
  exact r_widen (by omega) (by omega) (kk g K z ⟨hw, hv, hm, hG, hM, rfl, rfl⟩)
set_option maxRecDepth 20000 in
theorem L_fault {f : Fx} {b L : Nat} {xs : Nat → Int32} {cells slots : Nat} {g : Gm} {I : Mm} {z : St} {i a1 a2 : Nat} (hX : Lx f b L xs) (hJ : JV a1 a2 z g I) (hi : i + 7 ≤ L) (h1 : cells + 8 ≤ 600000) (h2 : slots + 52 ≤ 7302249) (kk : ∀ g' I' z', JV a1 a2 z' g' I' → PW f (cells + 8) (slots + 52) g' I' 1203 (lvL b a1 a2 i) []) : PW f cells slots g I 1167 (lvL b a1 a2 i) [] := by
  obtain ⟨hw, hv, hm, hG, hM, rfl, rfl⟩ := hJ
  have hC := hX.1
  refine r_aload_n hC dL_law_1167 rfl rfl (j := 2) rfl ?_
  have h9 : wp_X9_fault (gK g) (s_n z) I (fun r J => r = (s_t z) ∧ FC I J ∧ CV (gK g) z J) := s9_fault hv (⟨rfl, FC.rf, hv⟩)
  refine r_callI hC (rmc := rm_X9_fault) (a_V hC (k := 9) (c_X9_fault hG h9) ci_X9_fault gL_law_X9_fault rfl ⟨(Nat.le_of_ble_eq_true rfl), (Nat.le_of_ble_eq_true rfl)⟩ ⟨by show cells + 0 ≤ 600000; omega, by show slots + 0 ≤ 7302249; omega⟩ rfl (by decide) hG.o.1 (List.mem_singleton.mp hG.o.2) rfl rfl (Nat.le_of_ble_eq_true rfl) dL_law_1168) ⟨rfl, rfl⟩ rfl (fun r J hJ => ?_)
  obtain ⟨e9, hf, hv⟩ := hJ
  have hm := hm.fc hf
  refine r_aload_n hC dL_law_1171 rfl rfl (j := 1) rfl ?_
  have h10 : wp_X10_fault J (fun r K => r = (s_t z) ∧ FM J K ∧ MV z K) := s10_fault hm (⟨rfl, FM.rf, hm⟩)
  refine r_callI hC (rmc := rm_X10_fault) (a_V hC (k := 10) (c_X10_fault hM h10) ci_X10_fault gL_law_X10_fault rfl ⟨(Nat.le_of_ble_eq_true rfl), (Nat.le_of_ble_eq_true rfl)⟩ ⟨by show cells + 0 ≤ 600000; omega, by show slots + 0 ≤ 7302249; omega⟩ rfl (by decide) hM.o.1 (List.mem_singleton.mp hM.o.2) rfl rfl (Nat.le_of_ble_eq_true rfl) dL_law_1172) ⟨rfl, rfl⟩ rfl (fun r2 K hK2 => ?_)
  obtain ⟨e10, hf2, hm⟩ := hK2
  have hv := hv.fm hw.1 hf2
  refine r_icmp_eq hC (tgt := 1203) (P1 := True) (P2 := False) dL_law_1175 rfl (by decide) (by rw [if_pos (e9.trans e10.symm)]; trivial) (fun _ => ?_) (fun h => h.elim)
  exact r_widen (by omega) (by omega) (kk g K z ⟨hw, hv, hm, hG, hM, rfl, rfl⟩)
set_option maxRecDepth 20000 in
theorem L_many {f : Fx} {b L : Nat} {xs : Nat → Int32} {cells slots : Nat} {g : Gm} {I : Mm} {z : St} {i a1 a2 : Nat} (hX : Lx f b L xs) (hJ : JV a1 a2 z g I) (hi : i + 7 ≤ L) (h1 : cells + 8 ≤ 600000) (h2 : slots + 52 ≤ 7302249) (kk : ∀ g' I' z', JV a1 a2 z' g' I' → PW f (cells + 8) (slots + 52) g' I' 1203 (lvL b a1 a2 i) []) : PW f cells slots g I 1180 (lvL b a1 a2 i) [] := by
  obtain ⟨hw, hv, hm, hG, hM, rfl, rfl⟩ := hJ
  have hC := hX.1
  refine r_aload_n hC dL_law_1180 rfl rfl (j := 2) rfl ?_
  refine s_arg hX (k := 1) dL_law_1181 dL_law_1182 dL_law_1183 dL_law_1184 dL_law_1185 rfl (by decide) hi (by decide) ?_
  have h9 : wp_X9_many (gK g) (s_n z) (xs (i + 1)) I (fun r J => r = (v_many z (xs (i + 1))) ∧ FC I J ∧ CV (gK g) z J) := s9_many hw hv (⟨rfl, FC.rf, hv⟩)
  refine r_callI hC (rmc := rm_X9_many) (a_V hC (k := 9) (c_X9_many hG h9) ci_X9_many gL_law_X9_many rfl ⟨(Nat.le_of_ble_eq_true rfl), (Nat.le_of_ble_eq_true rfl)⟩ ⟨by show cells + 0 ≤ 600000; omega, by show slots + 0 ≤ 7302249; omega⟩ rfl (by decide) hG.o.1 (List.mem_singleton.mp hG.o.2) rfl rfl (Nat.le_of_ble_eq_true rfl) dL_law_1186) ⟨rfl, rfl⟩ rfl (fun r J hJ => ?_)
  obtain ⟨e9, hf, hv⟩ := hJ
  have hm := hm.fc hf
  refine r_aload_n hC dL_law_1189 rfl rfl (j := 1) rfl ?_
  refine s_arg hX (k := 1) dL_law_1190 dL_law_1191 dL_law_1192 dL_law_1193 dL_law_1194 rfl (by decide) hi (by decide) ?_
  have h10 : wp_X10_many (xs (i + 1)) J (fun r K => r = (v_many z (xs (i + 1))) ∧ FM J K ∧ MV z K) := s10_many hw hm (⟨rfl, FM.rf, hm⟩)
  refine r_callI hC (rmc := rm_X10_many) (a_V hC (k := 10) (c_X10_many hM h10) ci_X10_many gL_law_X10_many rfl ⟨(Nat.le_of_ble_eq_true rfl), (Nat.le_of_ble_eq_true rfl)⟩ ⟨by show cells + 0 ≤ 600000; omega, by show slots + 0 ≤ 7302249; omega⟩ rfl (by decide) hM.o.1 (List.mem_singleton.mp hM.o.2) rfl rfl (Nat.le_of_ble_eq_true rfl) dL_law_1195) ⟨rfl, rfl⟩ rfl (fun r2 K hK2 => ?_)
  obtain ⟨e10, hf2, hm⟩ := hK2
  have hv := hv.fm hw.1 hf2
  refine r_icmp_eq hC (tgt := 1203) (P1 := True) (P2 := False) dL_law_1198 rfl (by decide) (by rw [if_pos (e9.trans e10.symm)]; trivial) (fun _ => ?_) (fun h => h.elim)
  exact r_widen (by omega) (by omega) (kk g K z ⟨hw, hv, hm, hG, hM, rfl, rfl⟩)
