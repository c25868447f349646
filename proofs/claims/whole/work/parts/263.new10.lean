abbrev rm_X10_init : Room := { frames := 1, cells := 16, slots := 916, locals := 48 }
theorem ci_X10_init : CI yX10_init wsX10_init cX10_init 2 none 0 := ⟨⟨_, rfl⟩, by decide, by decide, by decide +kernel⟩
set_option maxRecDepth 20000 in
theorem uw_X10_init_10 : ∀ w ∈ u_ws RX10 TX10 30, w ∈ wsX10_init := by decide +kernel
set_option maxRecDepth 20000 in
theorem ffg_X10_init_7 : ∀ k ∈ ([10] : List Nat), FF wsX10_init RX10 7 k 4 ∧ fR k 4 = true := List.forall_mem_cons.mpr ⟨⟨⟨RX10, TX10, 30, "PageDesksModel", rfl, rfl, by decide, by decide, uw_X10_init_10, (List.mem_of_getElem? (i := 5) rfl), Or.inl rfl⟩, rfl⟩, fun _ h => absurd h List.not_mem_nil⟩
set_option maxRecDepth 20000 in
theorem ffg_X10_init_13 : ∀ k ∈ ([10] : List Nat), FF wsX10_init RX10 13 k 5 ∧ fR k 5 = true := List.forall_mem_cons.mpr ⟨⟨⟨RX10, TX10, 30, "PageDesksModel", rfl, rfl, by decide, by decide, uw_X10_init_10, (List.mem_of_getElem? (i := 6) rfl), Or.inl rfl⟩, rfl⟩, fun _ h => absurd h List.not_mem_nil⟩
set_option maxRecDepth 20000 in
theorem ffg_X10_init_16 : ∀ k ∈ ([10] : List Nat), FF wsX10_init RX10 16 k 6 ∧ fR k 6 = true := List.forall_mem_cons.mpr ⟨⟨⟨RX10, TX10, 30, "PageDesksModel", rfl, rfl, by decide, by decide, uw_X10_init_10, (List.mem_of_getElem? (i := 7) rfl), Or.inl rfl⟩, rfl⟩, fun _ h => absurd h List.not_mem_nil⟩
set_option maxRecDepth 20000 in
theorem ffg_X10_init_19 : ∀ k ∈ ([10] : List Nat), FF wsX10_init RX10 19 k 10 ∧ fR k 10 = true := List.forall_mem_cons.mpr ⟨⟨⟨RX10, TX10, 30, "PageDesksModel", rfl, rfl, by decide, by decide, uw_X10_init_10, (List.mem_of_getElem? (i := 8) rfl), Or.inl rfl⟩, rfl⟩, fun _ h => absurd h List.not_mem_nil⟩
set_option maxRecDepth 20000 in
theorem ffg_X10_init_22 : ∀ k ∈ ([10] : List Nat), FF wsX10_init RX10 22 k 11 ∧ fR k 11 = true := List.forall_mem_cons.mpr ⟨⟨⟨RX10, TX10, 30, "PageDesksModel", rfl, rfl, by decide, by decide, uw_X10_init_10, (List.mem_of_getElem? (i := 9) rfl), Or.inl rfl⟩, rfl⟩, fun _ h => absurd h List.not_mem_nil⟩
set_option maxRecDepth 20000 in
theorem ffg_X10_init_25 : ∀ k ∈ ([10] : List Nat), FF wsX10_init RX10 25 k 12 ∧ fR k 12 = true := List.forall_mem_cons.mpr ⟨⟨⟨RX10, TX10, 30, "PageDesksModel", rfl, rfl, by decide, by decide, uw_X10_init_10, (List.mem_of_getElem? (i := 10) rfl), Or.inl rfl⟩, rfl⟩, fun _ h => absurd h List.not_mem_nil⟩
set_option maxRecDepth 20000 in
theorem ffg_X10_init_28 : ∀ k ∈ ([10] : List Nat), FF wsX10_init RX10 28 k 18 ∧ fR k 18 = true := List.forall_mem_cons.mpr ⟨⟨⟨RX10, TX10, 30, "PageDesksModel", rfl, rfl, by decide, by decide, uw_X10_init_10, (List.mem_of_getElem? (i := 11) rfl), Or.inl rfl⟩, rfl⟩, fun _ h => absurd h List.not_mem_nil⟩
set_option maxRecDepth 20000 in
theorem ffg_X10_init_31 : ∀ k ∈ ([10] : List Nat), FF wsX10_init RX10 31 k 19 ∧ fR k 19 = true := List.forall_mem_cons.mpr ⟨⟨⟨RX10, TX10, 30, "PageDesksModel", rfl, rfl, by decide, by decide, uw_X10_init_10, (List.mem_of_getElem? (i := 12) rfl), Or.inl rfl⟩, rfl⟩, fun _ h => absurd h List.not_mem_nil⟩
set_option maxRecDepth 20000 in
theorem ffg_X10_init_34 : ∀ k ∈ ([10] : List Nat), FF wsX10_init RX10 34 k 20 ∧ fR k 20 = true := List.forall_mem_cons.mpr ⟨⟨⟨RX10, TX10, 30, "PageDesksModel", rfl, rfl, by decide, by decide, uw_X10_init_10, (List.mem_of_getElem? (i := 13) rfl), Or.inl rfl⟩, rfl⟩, fun _ h => absurd h List.not_mem_nil⟩
set_option maxRecDepth 20000 in
theorem ffg_X10_init_37 : ∀ k ∈ ([10] : List Nat), FF wsX10_init RX10 37 k 22 ∧ fR k 22 = true := List.forall_mem_cons.mpr ⟨⟨⟨RX10, TX10, 30, "PageDesksModel", rfl, rfl, by decide, by decide, uw_X10_init_10, (List.mem_of_getElem? (i := 14) rfl), Or.inl rfl⟩, rfl⟩, fun _ h => absurd h List.not_mem_nil⟩
set_option maxRecDepth 20000 in
theorem ffg_X10_init_40 : ∀ k ∈ ([10] : List Nat), FF wsX10_init RX10 40 k 23 ∧ fR k 23 = true := List.forall_mem_cons.mpr ⟨⟨⟨RX10, TX10, 30, "PageDesksModel", rfl, rfl, by decide, by decide, uw_X10_init_10, (List.mem_of_getElem? (i := 15) rfl), Or.inl rfl⟩, rfl⟩, fun _ h => absurd h List.not_mem_nil⟩
set_option maxRecDepth 20000 in
theorem ffg_X10_init_43 : ∀ k ∈ ([10] : List Nat), FF wsX10_init RX10 43 k 24 ∧ fR k 24 = true := List.forall_mem_cons.mpr ⟨⟨⟨RX10, TX10, 30, "PageDesksModel", rfl, rfl, by decide, by decide, uw_X10_init_10, (List.mem_of_getElem? (i := 16) rfl), Or.inl rfl⟩, rfl⟩, fun _ h => absurd h List.not_mem_nil⟩
set_option maxRecDepth 20000 in
theorem ffg_X10_init_46 : ∀ k ∈ ([10] : List Nat), FF wsX10_init RX10 46 k 25 ∧ fR k 25 = true := List.forall_mem_cons.mpr ⟨⟨⟨RX10, TX10, 30, "PageDesksModel", rfl, rfl, by decide, by decide, uw_X10_init_10, (List.mem_of_getElem? (i := 17) rfl), Or.inl rfl⟩, rfl⟩, fun _ h => absurd h List.not_mem_nil⟩
set_option maxRecDepth 20000 in
theorem ffg_X10_init_49 : ∀ k ∈ ([10] : List Nat), FF wsX10_init RX10 49 k 26 ∧ fR k 26 = true := List.forall_mem_cons.mpr ⟨⟨⟨RX10, TX10, 30, "PageDesksModel", rfl, rfl, by decide, by decide, uw_X10_init_10, (List.mem_of_getElem? (i := 18) rfl), Or.inl rfl⟩, rfl⟩, fun _ h => absurd h List.not_mem_nil⟩
set_option maxRecDepth 20000 in
theorem ffg_X10_init_52 : ∀ k ∈ ([10] : List Nat), FF wsX10_init RX10 52 k 27 ∧ fR k 27 = true := List.forall_mem_cons.mpr ⟨⟨⟨RX10, TX10, 30, "PageDesksModel", rfl, rfl, by decide, by decide, uw_X10_init_10, (List.mem_of_getElem? (i := 19) rfl), Or.inl rfl⟩, rfl⟩, fun _ h => absurd h List.not_mem_nil⟩
set_option maxRecDepth 20000 in
theorem ffg_X10_init_55 : ∀ k ∈ ([10] : List Nat), FF wsX10_init RX10 55 k 28 ∧ fR k 28 = true := List.forall_mem_cons.mpr ⟨⟨⟨RX10, TX10, 30, "PageDesksModel", rfl, rfl, by decide, by decide, uw_X10_init_10, (List.mem_of_getElem? (i := 20) rfl), Or.inl rfl⟩, rfl⟩, fun _ h => absurd h List.not_mem_nil⟩
set_option maxRecDepth 100000 in
set_option maxHeartbeats 4000000 in
theorem c_X10_init {l : Launch} {x : Gx} {g : Gm} {I : Mm} {b : Nat} (hb : gA g 100 = b) (hd : 100 ∈ gC g) (hk : gK g 100 = 10) (hI : ∀ j, I 100 j = 0) (hf : ∀ c, 100 < c → c ∉ gC g) : KV l x yX10_init wsX10_init rm_X10_init g I [.ref b] (fun u => gA u.1 100 = b ∧ shM u.1 ∧ (∀ c ∈ gC g, c ∈ gC u.1) ∧ (∀ c, c < 100 → gA u.1 c = gA g c ∧ gK u.1 c = gK g c ∧ gL u.1 c = gL g c ∧ gR u.1 c = gR g c) ∧ FM I u.2 ∧ MV z0 u.2 ∧ gC u.1 = gC g ++ [104, 105, 106, 110, 111, 112, 118, 119, 120, 122, 123, 124, 125, 126, 127, 128]) := by
  refine KN_of (by decide) rfl rfl rfl (Nat.le_of_ble_eq_true rfl) (fun f hC _ _ hin hR => ?_)
  show PW f 0 0 g I 0 [(0, .ref b)] []
  refine r_aload_n hC dX10_init_0 rfl rfl (j := 0) rfl ?_
  refine n_obj hC dX10_init_1 rfl (List.mem_of_getElem? (i := 1) rfl) (List.mem_of_getElem? (i := 2) rfl) (List.mem_of_getElem? (i := 3) rfl) (Nat.le_of_ble_eq_true rfl) (Nat.le_of_ble_eq_true rfl) ?_
  refine r_aload_n hC dX10_init_4 rfl rfl (j := 0) rfl ?_
  refine r_iconst hC (v := (4 : Int32)) dX10_init_5 rfl (by decide) ?_
  refine n_newa hC (N := 4) (104) dX10_init_6 rfl (hf 104 (by decide)) (List.mem_of_getElem? (i := 4) rfl) (by decide) (by decide) (by decide) (Nat.le_of_ble_eq_true rfl) (Nat.le_of_ble_eq_true rfl) (fun a1 => ?_)
  refine n_putRb hC hin (c := 100) (k := 10) (ty0 := tyX10) hb dX10_init_8 rfl (List.mem_append_left _ hd) hk (ffg_X10_init_7 10 (by decide)).1 rfl rfl tyX10_ok nmX10 rfl rfl rfl (by decide) ?_
  refine r_aload_n hC dX10_init_11 rfl rfl (j := 0) rfl ?_
  refine r_iconst hC (v := (4 : Int32)) dX10_init_12 rfl (by decide) ?_
  refine n_newa hC (N := 4) (105) dX10_init_13 rfl (nmA (hf 105 (by decide)) (by decide)) (List.mem_of_getElem? (i := 4) rfl) (by decide) (by decide) (by decide) (Nat.le_of_ble_eq_true rfl) (Nat.le_of_ble_eq_true rfl) (fun a2 => ?_)
  refine n_putRb hC hin (c := 100) (k := 10) (ty0 := tyX10) hb dX10_init_15 rfl (List.mem_append_left _ (List.mem_append_left _ hd)) hk (ffg_X10_init_13 10 (by decide)).1 rfl rfl tyX10_ok nmX10 rfl rfl rfl (by decide) ?_
  refine r_aload_n hC dX10_init_18 rfl rfl (j := 0) rfl ?_
  refine r_bipush hC (v := (24 : Int32)) dX10_init_19 rfl (by decide) ?_
  refine n_newa hC (N := 24) (106) dX10_init_21 rfl (nmA (nmA (hf 106 (by decide)) (by decide)) (by decide)) (List.mem_of_getElem? (i := 4) rfl) (by decide) (by decide) (by decide) (Nat.le_of_ble_eq_true rfl) (Nat.le_of_ble_eq_true rfl) (fun a3 => ?_)
  refine n_putRb hC hin (c := 100) (k := 10) (ty0 := tyX10) hb dX10_init_23 rfl (List.mem_append_left _ (List.mem_append_left _ (List.mem_append_left _ hd))) hk (ffg_X10_init_16 10 (by decide)).1 rfl rfl tyX10_ok nmX10 rfl rfl rfl (by decide) ?_
  refine r_aload_n hC dX10_init_26 rfl rfl (j := 0) rfl ?_
  refine r_iconst hC (v := (4 : Int32)) dX10_init_27 rfl (by decide) ?_
  refine n_newa hC (N := 4) (110) dX10_init_28 rfl (nmA (nmA (nmA (hf 110 (by decide)) (by decide)) (by decide)) (by decide)) (List.mem_of_getElem? (i := 4) rfl) (by decide) (by decide) (by decide) (Nat.le_of_ble_eq_true rfl) (Nat.le_of_ble_eq_true rfl) (fun a4 => ?_)
  refine n_putRb hC hin (c := 100) (k := 10) (ty0 := tyX10) hb dX10_init_30 rfl (List.mem_append_left _ (List.mem_append_left _ (List.mem_append_left _ (List.mem_append_left _ hd)))) hk (ffg_X10_init_19 10 (by decide)).1 rfl rfl tyX10_ok nmX10 rfl rfl rfl (by decide) ?_
  refine r_aload_n hC dX10_init_33 rfl rfl (j := 0) rfl ?_
  refine r_iconst hC (v := (4 : Int32)) dX10_init_34 rfl (by decide) ?_
  refine n_newa hC (N := 4) (111) dX10_init_35 rfl (nmA (nmA (nmA (nmA (hf 111 (by decide)) (by decide)) (by decide)) (by decide)) (by decide)) (List.mem_of_getElem? (i := 4) rfl) (by decide) (by decide) (by decide) (Nat.le_of_ble_eq_true rfl) (Nat.le_of_ble_eq_true rfl) (fun a5 => ?_)
  refine n_putRb hC hin (c := 100) (k := 10) (ty0 := tyX10) hb dX10_init_37 rfl (List.mem_append_left _ (List.mem_append_left _ (List.mem_append_left _ (List.mem_append_left _ (List.mem_append_left _ hd))))) hk (ffg_X10_init_22 10 (by decide)).1 rfl rfl tyX10_ok nmX10 rfl rfl rfl (by decide) ?_
  refine r_aload_n hC dX10_init_40 rfl rfl (j := 0) rfl ?_
  refine r_bipush hC (v := (24 : Int32)) dX10_init_41 rfl (by decide) ?_
  refine n_newa hC (N := 24) (112) dX10_init_43 rfl (nmA (nmA (nmA (nmA (nmA (hf 112 (by decide)) (by decide)) (by decide)) (by decide)) (by decide)) (by decide)) (List.mem_of_getElem? (i := 4) rfl) (by decide) (by decide) (by decide) (Nat.le_of_ble_eq_true rfl) (Nat.le_of_ble_eq_true rfl) (fun a6 => ?_)
  refine n_putRb hC hin (c := 100) (k := 10) (ty0 := tyX10) hb dX10_init_45 rfl (List.mem_append_left _ (List.mem_append_left _ (List.mem_append_left _ (List.mem_append_left _ (List.mem_append_left _ (List.mem_append_left _ hd)))))) hk (ffg_X10_init_25 10 (by decide)).1 rfl rfl tyX10_ok nmX10 rfl rfl rfl (by decide) ?_
  refine r_aload_n hC dX10_init_48 rfl rfl (j := 0) rfl ?_
  refine r_bipush hC (v := (8 : Int32)) dX10_init_49 rfl (by decide) ?_
  refine n_newa hC (N := 8) (118) dX10_init_51 rfl (nmA (nmA (nmA (nmA (nmA (nmA (hf 118 (by decide)) (by decide)) (by decide)) (by decide)) (by decide)) (by decide)) (by decide)) (List.mem_of_getElem? (i := 4) rfl) (by decide) (by decide) (by decide) (Nat.le_of_ble_eq_true rfl) (Nat.le_of_ble_eq_true rfl) (fun a7 => ?_)
  refine n_putRb hC hin (c := 100) (k := 10) (ty0 := tyX10) hb dX10_init_53 rfl (List.mem_append_left _ (List.mem_append_left _ (List.mem_append_left _ (List.mem_append_left _ (List.mem_append_left _ (List.mem_append_left _ (List.mem_append_left _ hd))))))) hk (ffg_X10_init_28 10 (by decide)).1 rfl rfl tyX10_ok nmX10 rfl rfl rfl (by decide) ?_
  refine r_aload_n hC dX10_init_56 rfl rfl (j := 0) rfl ?_
  refine r_sipush hC (v := (256 : Int32)) dX10_init_57 rfl (by decide) ?_
  refine n_newa hC (N := 256) (119) dX10_init_60 rfl (nmA (nmA (nmA (nmA (nmA (nmA (nmA (hf 119 (by decide)) (by decide)) (by decide)) (by decide)) (by decide)) (by decide)) (by decide)) (by decide)) (List.mem_of_getElem? (i := 4) rfl) (by decide) (by decide) (by decide) (Nat.le_of_ble_eq_true rfl) (Nat.le_of_ble_eq_true rfl) (fun a8 => ?_)
  refine n_putRb hC hin (c := 100) (k := 10) (ty0 := tyX10) hb dX10_init_62 rfl (List.mem_append_left _ (List.mem_append_left _ (List.mem_append_left _ (List.mem_append_left _ (List.mem_append_left _ (List.mem_append_left _ (List.mem_append_left _ (List.mem_append_left _ hd)))))))) hk (ffg_X10_init_31 10 (by decide)).1 rfl rfl tyX10_ok nmX10 rfl rfl rfl (by decide) ?_
  refine r_aload_n hC dX10_init_65 rfl rfl (j := 0) rfl ?_
  refine r_sipush hC (v := (256 : Int32)) dX10_init_66 rfl (by decide) ?_
  refine n_newa hC (N := 256) (120) dX10_init_69 rfl (nmA (nmA (nmA (nmA (nmA (nmA (nmA (nmA (hf 120 (by decide)) (by decide)) (by decide)) (by decide)) (by decide)) (by decide)) (by decide)) (by decide)) (by decide)) (List.mem_of_getElem? (i := 4) rfl) (by decide) (by decide) (by decide) (Nat.le_of_ble_eq_true rfl) (Nat.le_of_ble_eq_true rfl) (fun a9 => ?_)
  refine n_putRb hC hin (c := 100) (k := 10) (ty0 := tyX10) hb dX10_init_71 rfl (List.mem_append_left _ (List.mem_append_left _ (List.mem_append_left _ (List.mem_append_left _ (List.mem_append_left _ (List.mem_append_left _ (List.mem_append_left _ (List.mem_append_left _ (List.mem_append_left _ hd))))))))) hk (ffg_X10_init_34 10 (by decide)).1 rfl rfl tyX10_ok nmX10 rfl rfl rfl (by decide) ?_
  refine r_aload_n hC dX10_init_74 rfl rfl (j := 0) rfl ?_
  refine r_bipush hC (v := (8 : Int32)) dX10_init_75 rfl (by decide) ?_
  refine n_newa hC (N := 8) (122) dX10_init_77 rfl (nmA (nmA (nmA (nmA (nmA (nmA (nmA (nmA (nmA (hf 122 (by decide)) (by decide)) (by decide)) (by decide)) (by decide)) (by decide)) (by decide)) (by decide)) (by decide)) (by decide)) (List.mem_of_getElem? (i := 4) rfl) (by decide) (by decide) (by decide) (Nat.le_of_ble_eq_true rfl) (Nat.le_of_ble_eq_true rfl) (fun a10 => ?_)
  refine n_putRb hC hin (c := 100) (k := 10) (ty0 := tyX10) hb dX10_init_79 rfl (List.mem_append_left _ (List.mem_append_left _ (List.mem_append_left _ (List.mem_append_left _ (List.mem_append_left _ (List.mem_append_left _ (List.mem_append_left _ (List.mem_append_left _ (List.mem_append_left _ (List.mem_append_left _ hd)))))))))) hk (ffg_X10_init_37 10 (by decide)).1 rfl rfl tyX10_ok nmX10 rfl rfl rfl (by decide) ?_
  refine r_aload_n hC dX10_init_82 rfl rfl (j := 0) rfl ?_
  refine r_bipush hC (v := (8 : Int32)) dX10_init_83 rfl (by decide) ?_
  refine n_newa hC (N := 8) (123) dX10_init_85 rfl (nmA (nmA (nmA (nmA (nmA (nmA (nmA (nmA (nmA (nmA (hf 123 (by decide)) (by decide)) (by decide)) (by decide)) (by decide)) (by decide)) (by decide)) (by decide)) (by decide)) (by decide)) (by decide)) (List.mem_of_getElem? (i := 4) rfl) (by decide) (by decide) (by decide) (Nat.le_of_ble_eq_true rfl) (Nat.le_of_ble_eq_true rfl) (fun a11 => ?_)
  refine n_putRb hC hin (c := 100) (k := 10) (ty0 := tyX10) hb dX10_init_87 rfl (List.mem_append_left _ (List.mem_append_left _ (List.mem_append_left _ (List.mem_append_left _ (List.mem_append_left _ (List.mem_append_left _ (List.mem_append_left _ (List.mem_append_left _ (List.mem_append_left _ (List.mem_append_left _ (List.mem_append_left _ hd))))))))))) hk (ffg_X10_init_40 10 (by decide)).1 rfl rfl tyX10_ok nmX10 rfl rfl rfl (by decide) ?_
  refine r_aload_n hC dX10_init_90 rfl rfl (j := 0) rfl ?_
  refine r_bipush hC (v := (8 : Int32)) dX10_init_91 rfl (by decide) ?_
  refine n_newa hC (N := 8) (124) dX10_init_93 rfl (nmA (nmA (nmA (nmA (nmA (nmA (nmA (nmA (nmA (nmA (nmA (hf 124 (by decide)) (by decide)) (by decide)) (by decide)) (by decide)) (by decide)) (by decide)) (by decide)) (by decide)) (by decide)) (by decide)) (by decide)) (List.mem_of_getElem? (i := 4) rfl) (by decide) (by decide) (by decide) (Nat.le_of_ble_eq_true rfl) (Nat.le_of_ble_eq_true rfl) (fun a12 => ?_)
  refine n_putRb hC hin (c := 100) (k := 10) (ty0 := tyX10) hb dX10_init_95 rfl (List.mem_append_left _ (List.mem_append_left _ (List.mem_append_left _ (List.mem_append_left _ (List.mem_append_left _ (List.mem_append_left _ (List.mem_append_left _ (List.mem_append_left _ (List.mem_append_left _ (List.mem_append_left _ (List.mem_append_left _ (List.mem_append_left _ hd)))))))))))) hk (ffg_X10_init_43 10 (by decide)).1 rfl rfl tyX10_ok nmX10 rfl rfl rfl (by decide) ?_
  refine r_aload_n hC dX10_init_98 rfl rfl (j := 0) rfl ?_
  refine r_iconst hC (v := (4 : Int32)) dX10_init_99 rfl (by decide) ?_
  refine n_newa hC (N := 4) (125) dX10_init_100 rfl (nmA (nmA (nmA (nmA (nmA (nmA (nmA (nmA (nmA (nmA (nmA (nmA (hf 125 (by decide)) (by decide)) (by decide)) (by decide)) (by decide)) (by decide)) (by decide)) (by decide)) (by decide)) (by decide)) (by decide)) (by decide)) (by decide)) (List.mem_of_getElem? (i := 4) rfl) (by decide) (by decide) (by decide) (Nat.le_of_ble_eq_true rfl) (Nat.le_of_ble_eq_true rfl) (fun a13 => ?_)
  refine n_putRb hC hin (c := 100) (k := 10) (ty0 := tyX10) hb dX10_init_102 rfl (List.mem_append_left _ (List.mem_append_left _ (List.mem_append_left _ (List.mem_append_left _ (List.mem_append_left _ (List.mem_append_left _ (List.mem_append_left _ (List.mem_append_left _ (List.mem_append_left _ (List.mem_append_left _ (List.mem_append_left _ (List.mem_append_left _ (List.mem_append_left _ hd))))))))))))) hk (ffg_X10_init_46 10 (by decide)).1 rfl rfl tyX10_ok nmX10 rfl rfl rfl (by decide) ?_
  refine r_aload_n hC dX10_init_105 rfl rfl (j := 0) rfl ?_
  refine r_iconst hC (v := (4 : Int32)) dX10_init_106 rfl (by decide) ?_
  refine n_newa hC (N := 4) (126) dX10_init_107 rfl (nmA (nmA (nmA (nmA (nmA (nmA (nmA (nmA (nmA (nmA (nmA (nmA (nmA (hf 126 (by decide)) (by decide)) (by decide)) (by decide)) (by decide)) (by decide)) (by decide)) (by decide)) (by decide)) (by decide)) (by decide)) (by decide)) (by decide)) (by decide)) (List.mem_of_getElem? (i := 4) rfl) (by decide) (by decide) (by decide) (Nat.le_of_ble_eq_true rfl) (Nat.le_of_ble_eq_true rfl) (fun a14 => ?_)
  refine n_putRb hC hin (c := 100) (k := 10) (ty0 := tyX10) hb dX10_init_109 rfl (List.mem_append_left _ (List.mem_append_left _ (List.mem_append_left _ (List.mem_append_left _ (List.mem_append_left _ (List.mem_append_left _ (List.mem_append_left _ (List.mem_append_left _ (List.mem_append_left _ (List.mem_append_left _ (List.mem_append_left _ (List.mem_append_left _ (List.mem_append_left _ (List.mem_append_left _ hd)))))))))))))) hk (ffg_X10_init_49 10 (by decide)).1 rfl rfl tyX10_ok nmX10 rfl rfl rfl (by decide) ?_
  refine r_aload_n hC dX10_init_112 rfl rfl (j := 0) rfl ?_
  refine r_sipush hC (v := (240 : Int32)) dX10_init_113 rfl (by decide) ?_
  refine n_newa hC (N := 240) (127) dX10_init_116 rfl (nmA (nmA (nmA (nmA (nmA (nmA (nmA (nmA (nmA (nmA (nmA (nmA (nmA (nmA (hf 127 (by decide)) (by decide)) (by decide)) (by decide)) (by decide)) (by decide)) (by decide)) (by decide)) (by decide)) (by decide)) (by decide)) (by decide)) (by decide)) (by decide)) (by decide)) (List.mem_of_getElem? (i := 4) rfl) (by decide) (by decide) (by decide) (Nat.le_of_ble_eq_true rfl) (Nat.le_of_ble_eq_true rfl) (fun a15 => ?_)
  refine n_putRb hC hin (c := 100) (k := 10) (ty0 := tyX10) hb dX10_init_118 rfl (List.mem_append_left _ (List.mem_append_left _ (List.mem_append_left _ (List.mem_append_left _ (List.mem_append_left _ (List.mem_append_left _ (List.mem_append_left _ (List.mem_append_left _ (List.mem_append_left _ (List.mem_append_left _ (List.mem_append_left _ (List.mem_append_left _ (List.mem_append_left _ (List.mem_append_left _ (List.mem_append_left _ hd))))))))))))))) hk (ffg_X10_init_52 10 (by decide)).1 rfl rfl tyX10_ok nmX10 rfl rfl rfl (by decide) ?_
  refine r_aload_n hC dX10_init_121 rfl rfl (j := 0) rfl ?_
  refine r_bipush hC (v := (60 : Int32)) dX10_init_122 rfl (by decide) ?_
  refine n_newa hC (N := 60) (128) dX10_init_124 rfl (nmA (nmA (nmA (nmA (nmA (nmA (nmA (nmA (nmA (nmA (nmA (nmA (nmA (nmA (nmA (hf 128 (by decide)) (by decide)) (by decide)) (by decide)) (by decide)) (by decide)) (by decide)) (by decide)) (by decide)) (by decide)) (by decide)) (by decide)) (by decide)) (by decide)) (by decide)) (by decide)) (List.mem_of_getElem? (i := 4) rfl) (by decide) (by decide) (by decide) (Nat.le_of_ble_eq_true rfl) (Nat.le_of_ble_eq_true rfl) (fun a16 => ?_)
  refine n_putRb hC hin (c := 100) (k := 10) (ty0 := tyX10) hb dX10_init_126 rfl (List.mem_append_left _ (List.mem_append_left _ (List.mem_append_left _ (List.mem_append_left _ (List.mem_append_left _ (List.mem_append_left _ (List.mem_append_left _ (List.mem_append_left _ (List.mem_append_left _ (List.mem_append_left _ (List.mem_append_left _ (List.mem_append_left _ (List.mem_append_left _ (List.mem_append_left _ (List.mem_append_left _ (List.mem_append_left _ hd)))))))))))))))) hk (ffg_X10_init_55 10 (by decide)).1 rfl rfl tyX10_ok nmX10 rfl rfl rfl (by decide) ?_
  refine r_iconst hC (v := (0 : Int32)) dX10_init_129 rfl (by decide) ?_
  refine r_istore_n hC (lv' := [(1, .int (0 : Int32)), (0, .ref b)]) dX10_init_130 rfl rfl (by decide) rfl ?_
  refine r_iload_n hC dX10_init_131 rfl rfl (j := 0) rfl ?_
  refine r_iconst hC (v := (4 : Int32)) dX10_init_132 rfl (by decide) ?_
  refine r_icmp_ge hC (tgt := 149) (P1 := False) (P2 := True) dX10_init_133 rfl (by decide) (by decide) (fun h => h.elim) (fun _ => ?_)
  refine r_aload_n hC dX10_init_136 rfl rfl (j := 1) rfl ?_
  refine r_getRb hC (c := 100) (ks := [10]) (a := a13) hb dX10_init_137 rfl (List.mem_append_left _ (List.mem_append_left _ (List.mem_append_left _ (List.mem_append_left _ (List.mem_append_left _ (List.mem_append_left _ (List.mem_append_left _ (List.mem_append_left _ (List.mem_append_left _ (List.mem_append_left _ (List.mem_append_left _ (List.mem_append_left _ (List.mem_append_left _ (List.mem_append_left _ (List.mem_append_left _ (List.mem_append_left _ hd)))))))))))))))) (List.mem_singleton.mpr hk) ffg_X10_init_46 rfl ?_
  refine r_iload_n hC dX10_init_140 rfl rfl (j := 0) rfl ?_
  refine r_iconst hC (v := (-1 : Int32)) dX10_init_141 rfl (by decide) ?_
  refine r_iastb hC (c := 125) rfl dX10_init_142 rfl (List.mem_append_left _ (List.mem_append_left _ (List.mem_append_left _ (List.mem_append_right _ (List.mem_singleton.mpr rfl))))) rfl (vp_in_nI (n := 0) (Nat.le_of_ble_eq_true rfl) (Nat.le_of_ble_eq_true rfl)) ?_
  refine r_iinc hC (k := 1) (lv' := [(1, .int (1 : Int32)), (0, .ref b)]) dX10_init_143 rfl (j := 0) rfl (by decide) (by decide) rfl ?_
  refine r_goto hC (tgt := 131) dX10_init_146 (by decide) ?_
  refine r_iload_n hC dX10_init_131 rfl rfl (j := 0) rfl ?_
  refine r_iconst hC (v := (4 : Int32)) dX10_init_132 rfl (by decide) ?_
  refine r_icmp_ge hC (tgt := 149) (P1 := False) (P2 := True) dX10_init_133 rfl (by decide) (by decide) (fun h => h.elim) (fun _ => ?_)
  refine r_aload_n hC dX10_init_136 rfl rfl (j := 1) rfl ?_
  refine r_getRb hC (c := 100) (ks := [10]) (a := a13) hb dX10_init_137 rfl (List.mem_append_left _ (List.mem_append_left _ (List.mem_append_left _ (List.mem_append_left _ (List.mem_append_left _ (List.mem_append_left _ (List.mem_append_left _ (List.mem_append_left _ (List.mem_append_left _ (List.mem_append_left _ (List.mem_append_left _ (List.mem_append_left _ (List.mem_append_left _ (List.mem_append_left _ (List.mem_append_left _ (List.mem_append_left _ hd)))))))))))))))) (List.mem_singleton.mpr hk) ffg_X10_init_46 rfl ?_
  refine r_iload_n hC dX10_init_140 rfl rfl (j := 0) rfl ?_
  refine r_iconst hC (v := (-1 : Int32)) dX10_init_141 rfl (by decide) ?_
  refine r_iastb hC (c := 125) rfl dX10_init_142 rfl (List.mem_append_left _ (List.mem_append_left _ (List.mem_append_left _ (List.mem_append_right _ (List.mem_singleton.mpr rfl))))) rfl (vp_in_nI (n := 1) (Nat.le_of_ble_eq_true rfl) (Nat.le_of_ble_eq_true rfl)) ?_
  refine r_iinc hC (k := 1) (lv' := [(1, .int (2 : Int32)), (0, .ref b)]) dX10_init_143 rfl (j := 0) rfl (by decide) (by decide) rfl ?_
  refine r_goto hC (tgt := 131) dX10_init_146 (by decide) ?_
  refine r_iload_n hC dX10_init_131 rfl rfl (j := 0) rfl ?_
  refine r_iconst hC (v := (4 : Int32)) dX10_init_132 rfl (by decide) ?_
  refine r_icmp_ge hC (tgt := 149) (P1 := False) (P2 := True) dX10_init_133 rfl (by decide) (by decide) (fun h => h.elim) (fun _ => ?_)
  refine r_aload_n hC dX10_init_136 rfl rfl (j := 1) rfl ?_
  refine r_getRb hC (c := 100) (ks := [10]) (a := a13) hb dX10_init_137 rfl (List.mem_append_left _ (List.mem_append_left _ (List.mem_append_left _ (List.mem_append_left _ (List.mem_append_left _ (List.mem_append_left _ (List.mem_append_left _ (List.mem_append_left _ (List.mem_append_left _ (List.mem_append_left _ (List.mem_append_left _ (List.mem_append_left _ (List.mem_append_left _ (List.mem_append_left _ (List.mem_append_left _ (List.mem_append_left _ hd)))))))))))))))) (List.mem_singleton.mpr hk) ffg_X10_init_46 rfl ?_
  refine r_iload_n hC dX10_init_140 rfl rfl (j := 0) rfl ?_
  refine r_iconst hC (v := (-1 : Int32)) dX10_init_141 rfl (by decide) ?_
  refine r_iastb hC (c := 125) rfl dX10_init_142 rfl (List.mem_append_left _ (List.mem_append_left _ (List.mem_append_left _ (List.mem_append_right _ (List.mem_singleton.mpr rfl))))) rfl (vp_in_nI (n := 2) (Nat.le_of_ble_eq_true rfl) (Nat.le_of_ble_eq_true rfl)) ?_
  refine r_iinc hC (k := 1) (lv' := [(1, .int (3 : Int32)), (0, .ref b)]) dX10_init_143 rfl (j := 0) rfl (by decide) (by decide) rfl ?_
  refine r_goto hC (tgt := 131) dX10_init_146 (by decide) ?_
  refine r_iload_n hC dX10_init_131 rfl rfl (j := 0) rfl ?_
  refine r_iconst hC (v := (4 : Int32)) dX10_init_132 rfl (by decide) ?_
  refine r_icmp_ge hC (tgt := 149) (P1 := False) (P2 := True) dX10_init_133 rfl (by decide) (by decide) (fun h => h.elim) (fun _ => ?_)
  refine r_aload_n hC dX10_init_136 rfl rfl (j := 1) rfl ?_
  refine r_getRb hC (c := 100) (ks := [10]) (a := a13) hb dX10_init_137 rfl (List.mem_append_left _ (List.mem_append_left _ (List.mem_append_left _ (List.mem_append_left _ (List.mem_append_left _ (List.mem_append_left _ (List.mem_append_left _ (List.mem_append_left _ (List.mem_append_left _ (List.mem_append_left _ (List.mem_append_left _ (List.mem_append_left _ (List.mem_append_left _ (List.mem_append_left _ (List.mem_append_left _ (List.mem_append_left _ hd)))))))))))))))) (List.mem_singleton.mpr hk) ffg_X10_init_46 rfl ?_
  refine r_iload_n hC dX10_init_140 rfl rfl (j := 0) rfl ?_
  refine r_iconst hC (v := (-1 : Int32)) dX10_init_141 rfl (by decide) ?_
  refine r_iastb hC (c := 125) rfl dX10_init_142 rfl (List.mem_append_left _ (List.mem_append_left _ (List.mem_append_left _ (List.mem_append_right _ (List.mem_singleton.mpr rfl))))) rfl (vp_in_nI (n := 3) (Nat.le_of_ble_eq_true rfl) (Nat.le_of_ble_eq_true rfl)) ?_
  refine r_iinc hC (k := 1) (lv' := [(1, .int (4 : Int32)), (0, .ref b)]) dX10_init_143 rfl (j := 0) rfl (by decide) (by decide) rfl ?_
  refine r_goto hC (tgt := 131) dX10_init_146 (by decide) ?_
  refine r_iload_n hC dX10_init_131 rfl rfl (j := 0) rfl ?_
  refine r_iconst hC (v := (4 : Int32)) dX10_init_132 rfl (by decide) ?_
  refine r_icmp_ge hC (tgt := 149) (P1 := True) (P2 := False) dX10_init_133 rfl (by decide) (by decide) (fun _ => ?_) (fun h => h.elim)
  refine n_retV hC hR (Nat.le_of_ble_eq_true rfl) (Nat.le_of_ble_eq_true rfl) dX10_init_149 ⟨hb, ⟨⟨(List.mem_append_left _ (List.mem_append_left _ (List.mem_append_left _ (List.mem_append_left _ (List.mem_append_left _ (List.mem_append_left _ (List.mem_append_left _ (List.mem_append_left _ (List.mem_append_left _ (List.mem_append_left _ (List.mem_append_left _ (List.mem_append_left _ (List.mem_append_left _ (List.mem_append_left _ (List.mem_append_left _ (List.mem_append_left _ hd)))))))))))))))), List.mem_singleton.mpr hk⟩, ?_⟩, fun c hc => (List.mem_append_left _ (List.mem_append_left _ (List.mem_append_left _ (List.mem_append_left _ (List.mem_append_left _ (List.mem_append_left _ (List.mem_append_left _ (List.mem_append_left _ (List.mem_append_left _ (List.mem_append_left _ (List.mem_append_left _ (List.mem_append_left _ (List.mem_append_left _ (List.mem_append_left _ (List.mem_append_left _ (List.mem_append_left _ hc)))))))))))))))), fun c hc => ?_, fun c hc => ?_, ?_, ?_⟩
  · refine List.forall_mem_cons.mpr ⟨⟨⟨(List.mem_append_left _ (List.mem_append_left _ (List.mem_append_left _ (List.mem_append_left _ (List.mem_append_left _ (List.mem_append_left _ (List.mem_append_left _ (List.mem_append_left _ (List.mem_append_left _ (List.mem_append_left _ (List.mem_append_left _ (List.mem_append_left _ (List.mem_append_left _ (List.mem_append_left _ (List.mem_append_left _ (List.mem_append_right _ (List.mem_singleton.mpr rfl))))))))))))))))), rfl, rfl⟩, rfl⟩, ?_⟩
    refine List.forall_mem_cons.mpr ⟨⟨⟨(List.mem_append_left _ (List.mem_append_left _ (List.mem_append_left _ (List.mem_append_left _ (List.mem_append_left _ (List.mem_append_left _ (List.mem_append_left _ (List.mem_append_left _ (List.mem_append_left _ (List.mem_append_left _ (List.mem_append_left _ (List.mem_append_left _ (List.mem_append_left _ (List.mem_append_left _ (List.mem_append_right _ (List.mem_singleton.mpr rfl)))))))))))))))), rfl, rfl⟩, rfl⟩, ?_⟩
    refine List.forall_mem_cons.mpr ⟨⟨⟨(List.mem_append_left _ (List.mem_append_left _ (List.mem_append_left _ (List.mem_append_left _ (List.mem_append_left _ (List.mem_append_left _ (List.mem_append_left _ (List.mem_append_left _ (List.mem_append_left _ (List.mem_append_left _ (List.mem_append_left _ (List.mem_append_left _ (List.mem_append_left _ (List.mem_append_right _ (List.mem_singleton.mpr rfl))))))))))))))), rfl, rfl⟩, rfl⟩, ?_⟩
    refine List.forall_mem_cons.mpr ⟨⟨⟨(List.mem_append_left _ (List.mem_append_left _ (List.mem_append_left _ (List.mem_append_left _ (List.mem_append_left _ (List.mem_append_left _ (List.mem_append_left _ (List.mem_append_left _ (List.mem_append_left _ (List.mem_append_left _ (List.mem_append_left _ (List.mem_append_left _ (List.mem_append_right _ (List.mem_singleton.mpr rfl)))))))))))))), rfl, rfl⟩, rfl⟩, ?_⟩
    refine List.forall_mem_cons.mpr ⟨⟨⟨(List.mem_append_left _ (List.mem_append_left _ (List.mem_append_left _ (List.mem_append_left _ (List.mem_append_left _ (List.mem_append_left _ (List.mem_append_left _ (List.mem_append_left _ (List.mem_append_left _ (List.mem_append_left _ (List.mem_append_left _ (List.mem_append_right _ (List.mem_singleton.mpr rfl))))))))))))), rfl, rfl⟩, rfl⟩, ?_⟩
    refine List.forall_mem_cons.mpr ⟨⟨⟨(List.mem_append_left _ (List.mem_append_left _ (List.mem_append_left _ (List.mem_append_left _ (List.mem_append_left _ (List.mem_append_left _ (List.mem_append_left _ (List.mem_append_left _ (List.mem_append_left _ (List.mem_append_left _ (List.mem_append_right _ (List.mem_singleton.mpr rfl)))))))))))), rfl, rfl⟩, rfl⟩, ?_⟩
    refine List.forall_mem_cons.mpr ⟨⟨⟨(List.mem_append_left _ (List.mem_append_left _ (List.mem_append_left _ (List.mem_append_left _ (List.mem_append_left _ (List.mem_append_left _ (List.mem_append_left _ (List.mem_append_left _ (List.mem_append_left _ (List.mem_append_right _ (List.mem_singleton.mpr rfl))))))))))), rfl, rfl⟩, rfl⟩, ?_⟩
    refine List.forall_mem_cons.mpr ⟨⟨⟨(List.mem_append_left _ (List.mem_append_left _ (List.mem_append_left _ (List.mem_append_left _ (List.mem_append_left _ (List.mem_append_left _ (List.mem_append_left _ (List.mem_append_left _ (List.mem_append_right _ (List.mem_singleton.mpr rfl)))))))))), rfl, rfl⟩, rfl⟩, ?_⟩
    refine List.forall_mem_cons.mpr ⟨⟨⟨(List.mem_append_left _ (List.mem_append_left _ (List.mem_append_left _ (List.mem_append_left _ (List.mem_append_left _ (List.mem_append_left _ (List.mem_append_left _ (List.mem_append_right _ (List.mem_singleton.mpr rfl))))))))), rfl, rfl⟩, rfl⟩, ?_⟩
    refine List.forall_mem_cons.mpr ⟨⟨⟨(List.mem_append_left _ (List.mem_append_left _ (List.mem_append_left _ (List.mem_append_left _ (List.mem_append_left _ (List.mem_append_left _ (List.mem_append_right _ (List.mem_singleton.mpr rfl)))))))), rfl, rfl⟩, rfl⟩, ?_⟩
    refine List.forall_mem_cons.mpr ⟨⟨⟨(List.mem_append_left _ (List.mem_append_left _ (List.mem_append_left _ (List.mem_append_left _ (List.mem_append_left _ (List.mem_append_right _ (List.mem_singleton.mpr rfl))))))), rfl, rfl⟩, rfl⟩, ?_⟩
    refine List.forall_mem_cons.mpr ⟨⟨⟨(List.mem_append_left _ (List.mem_append_left _ (List.mem_append_left _ (List.mem_append_left _ (List.mem_append_right _ (List.mem_singleton.mpr rfl)))))), rfl, rfl⟩, rfl⟩, ?_⟩
    refine List.forall_mem_cons.mpr ⟨⟨⟨(List.mem_append_left _ (List.mem_append_left _ (List.mem_append_left _ (List.mem_append_right _ (List.mem_singleton.mpr rfl))))), rfl, rfl⟩, rfl⟩, ?_⟩
    refine List.forall_mem_cons.mpr ⟨⟨⟨(List.mem_append_left _ (List.mem_append_left _ (List.mem_append_right _ (List.mem_singleton.mpr rfl)))), rfl, rfl⟩, rfl⟩, ?_⟩
    refine List.forall_mem_cons.mpr ⟨⟨⟨(List.mem_append_left _ (List.mem_append_right _ (List.mem_singleton.mpr rfl))), rfl, rfl⟩, rfl⟩, ?_⟩
    refine List.forall_mem_cons.mpr ⟨⟨⟨(List.mem_append_right _ (List.mem_singleton.mpr rfl)), rfl, rfl⟩, rfl⟩, ?_⟩
    exact fun q hq => absurd hq List.not_mem_nil
  · refine ⟨?_, ?_, ?_, ?_⟩
    · dsimp only [gPut, gAdd, gA, gC, gK, gL, gR]
      repeat rw [va_up_ne _ _ (by omega)]
    · dsimp only [gPut, gAdd, gA, gC, gK, gL, gR]
      repeat rw [va_up_ne _ _ (by omega)]
    · dsimp only [gPut, gAdd, gA, gC, gK, gL, gR]
      repeat rw [va_up_ne _ _ (by omega)]
    · dsimp only [gPut, gAdd, gA, gC, gK, gL, gR]
      repeat rw [va_up_ne _ _ (by omega)]
  · dsimp only [up2, iAdd]
    repeat rw [va_up_ne _ _ (by omega)]
  · refine ⟨hI 1, ⟨hI 2, fun j hj => absurd hj (Nat.not_lt_zero _)⟩, hI 3, fun k hk => absurd hk (Nat.not_lt_zero _), ⟨hI 21, fun j hj => absurd hj (Nat.not_lt_zero _)⟩, fun k hk => ?_, hI 0, hI 29⟩
    rcases (show k = 0 ∨ k = 1 ∨ k = 2 ∨ k = 3 by omega) with rfl | rfl | rfl | rfl <;> rfl
  · dsimp only [gPut, gAdd, gA, gC, gK, gL, gR]
    simp only [List.append_assoc, List.cons_append, List.nil_append]
