/-! 18.model1: written by wip/whole/gen.py -/
def F_X12_init (l : Launch) (G : GG) (d : Nat) (v0 : Nat) (σ : Hp) (bc bs : Nat) (K : Hp → Prop) : Prop :=
  nI_ σ 900 bc bs fun N3 q1 σ2 =>
  pF σ2 v0 12 1 (aR (some q1)) fun σ4 =>
  pF σ4 v0 12 10 (aI (-1)) fun σ6 =>
  nI_ σ6 8 (bc - 1) (bs - N3) fun N10 q8 σ9 =>
  pF σ9 v0 12 12 (aR (some q8)) fun σ11 =>
  nI_ σ11 100 ((bc - 1) - 1) ((bs - N3) - N10) fun N15 q13 σ14 =>
  pF σ14 v0 12 15 (aR (some q13)) fun σ16 =>
  nI_ σ16 100 (((bc - 1) - 1) - 1) (((bs - N3) - N10) - N15) fun N20 q18 σ19 =>
  pF σ19 v0 12 16 (aR (some q18)) fun σ21 =>
  nI_ σ21 16 ((((bc - 1) - 1) - 1) - 1) ((((bs - N3) - N10) - N15) - N20) fun N25 q23 σ24 =>
  pF σ24 v0 12 17 (aR (some q23)) fun σ26 =>
  nI_ σ26 16 (((((bc - 1) - 1) - 1) - 1) - 1) (((((bs - N3) - N10) - N15) - N20) - N25) fun N30 q28 σ29 =>
  pF σ29 v0 12 18 (aR (some q28)) fun σ31 =>
  nI_ σ31 256 ((((((bc - 1) - 1) - 1) - 1) - 1) - 1) ((((((bs - N3) - N10) - N15) - N20) - N25) - N30) fun N35 q33 σ34 =>
  pF σ34 v0 12 19 (aR (some q33)) fun σ36 =>
  nI_ σ36 48 (((((((bc - 1) - 1) - 1) - 1) - 1) - 1) - 1) (((((((bs - N3) - N10) - N15) - N20) - N25) - N30) - N35) fun N40 q38 σ39 =>
  pF σ39 v0 12 20 (aR (some q38)) fun σ41 =>
  nI_ σ41 224 ((((((((bc - 1) - 1) - 1) - 1) - 1) - 1) - 1) - 1) ((((((((bs - N3) - N10) - N15) - N20) - N25) - N30) - N35) - N40) fun N45 q43 σ44 =>
  pF σ44 v0 12 23 (aR (some q43)) fun σ46 =>
  nI_ σ46 224 (((((((((bc - 1) - 1) - 1) - 1) - 1) - 1) - 1) - 1) - 1) (((((((((bs - N3) - N10) - N15) - N20) - N25) - N30) - N35) - N40) - N45) fun N50 q48 σ49 =>
  pF σ49 v0 12 24 (aR (some q48)) fun σ51 =>
  nI_ σ51 224 ((((((((((bc - 1) - 1) - 1) - 1) - 1) - 1) - 1) - 1) - 1) - 1) ((((((((((bs - N3) - N10) - N15) - N20) - N25) - N30) - N35) - N40) - N45) - N50) fun N55 q53 σ54 =>
  pF σ54 v0 12 25 (aR (some q53)) fun σ56 =>
  nI_ σ56 224 (((((((((((bc - 1) - 1) - 1) - 1) - 1) - 1) - 1) - 1) - 1) - 1) - 1) (((((((((((bs - N3) - N10) - N15) - N20) - N25) - N30) - N35) - N40) - N45) - N50) - N55) fun N60 q58 σ59 =>
  pF σ59 v0 12 26 (aR (some q58)) fun σ61 =>
  nI_ σ61 224 ((((((((((((bc - 1) - 1) - 1) - 1) - 1) - 1) - 1) - 1) - 1) - 1) - 1) - 1) ((((((((((((bs - N3) - N10) - N15) - N20) - N25) - N30) - N35) - N40) - N45) - N50) - N55) - N60) fun N65 q63 σ64 =>
  pF σ64 v0 12 27 (aR (some q63)) fun σ66 =>
  nI_ σ66 224 (((((((((((((bc - 1) - 1) - 1) - 1) - 1) - 1) - 1) - 1) - 1) - 1) - 1) - 1) - 1) (((((((((((((bs - N3) - N10) - N15) - N20) - N25) - N30) - N35) - N40) - N45) - N50) - N55) - N60) - N65) fun N70 q68 σ69 =>
  pF σ69 v0 12 28 (aR (some q68)) fun σ71 =>
  nI_ σ71 224 ((((((((((((((bc - 1) - 1) - 1) - 1) - 1) - 1) - 1) - 1) - 1) - 1) - 1) - 1) - 1) - 1) ((((((((((((((bs - N3) - N10) - N15) - N20) - N25) - N30) - N35) - N40) - N45) - N50) - N55) - N60) - N65) - N70) fun N75 q73 σ74 =>
  pF σ74 v0 12 29 (aR (some q73)) fun σ76 =>
  nI_ σ76 32768 (((((((((((((((bc - 1) - 1) - 1) - 1) - 1) - 1) - 1) - 1) - 1) - 1) - 1) - 1) - 1) - 1) - 1) (((((((((((((((bs - N3) - N10) - N15) - N20) - N25) - N30) - N35) - N40) - N45) - N50) - N55) - N60) - N65) - N70) - N75) fun N80 q78 σ79 =>
  pF σ79 v0 12 31 (aR (some q78)) fun σ81 =>
  nI_ σ81 32768 ((((((((((((((((bc - 1) - 1) - 1) - 1) - 1) - 1) - 1) - 1) - 1) - 1) - 1) - 1) - 1) - 1) - 1) - 1) ((((((((((((((((bs - N3) - N10) - N15) - N20) - N25) - N30) - N35) - N40) - N45) - N50) - N55) - N60) - N65) - N70) - N75) - N80) fun N85 q83 σ84 =>
  pF σ84 v0 12 32 (aR (some q83)) fun σ86 =>
  nI_ σ86 32768 (((((((((((((((((bc - 1) - 1) - 1) - 1) - 1) - 1) - 1) - 1) - 1) - 1) - 1) - 1) - 1) - 1) - 1) - 1) - 1) (((((((((((((((((bs - N3) - N10) - N15) - N20) - N25) - N30) - N35) - N40) - N45) - N50) - N55) - N60) - N65) - N70) - N75) - N80) - N85) fun N90 q88 σ89 =>
  pF σ89 v0 12 33 (aR (some q88)) fun σ91 =>
  nI_ σ91 32768 ((((((((((((((((((bc - 1) - 1) - 1) - 1) - 1) - 1) - 1) - 1) - 1) - 1) - 1) - 1) - 1) - 1) - 1) - 1) - 1) - 1) ((((((((((((((((((bs - N3) - N10) - N15) - N20) - N25) - N30) - N35) - N40) - N45) - N50) - N55) - N60) - N65) - N70) - N75) - N80) - N85) - N90) fun N95 q93 σ94 =>
  pF σ94 v0 12 34 (aR (some q93)) fun σ96 =>
  nI_ σ96 32768 (((((((((((((((((((bc - 1) - 1) - 1) - 1) - 1) - 1) - 1) - 1) - 1) - 1) - 1) - 1) - 1) - 1) - 1) - 1) - 1) - 1) - 1) (((((((((((((((((((bs - N3) - N10) - N15) - N20) - N25) - N30) - N35) - N40) - N45) - N50) - N55) - N60) - N65) - N70) - N75) - N80) - N85) - N90) - N95) fun N100 q98 σ99 =>
  pF σ99 v0 12 35 (aR (some q98)) fun σ101 =>
  nI_ σ101 32768 ((((((((((((((((((((bc - 1) - 1) - 1) - 1) - 1) - 1) - 1) - 1) - 1) - 1) - 1) - 1) - 1) - 1) - 1) - 1) - 1) - 1) - 1) - 1) ((((((((((((((((((((bs - N3) - N10) - N15) - N20) - N25) - N30) - N35) - N40) - N45) - N50) - N55) - N60) - N65) - N70) - N75) - N80) - N85) - N90) - N95) - N100) fun N105 q103 σ104 =>
  pF σ104 v0 12 36 (aR (some q103)) fun σ106 =>
  nJ_ σ106 32768 (((((((((((((((((((((bc - 1) - 1) - 1) - 1) - 1) - 1) - 1) - 1) - 1) - 1) - 1) - 1) - 1) - 1) - 1) - 1) - 1) - 1) - 1) - 1) - 1) (((((((((((((((((((((bs - N3) - N10) - N15) - N20) - N25) - N30) - N35) - N40) - N45) - N50) - N55) - N60) - N65) - N70) - N75) - N80) - N85) - N90) - N95) - N100) - N105) fun N110 q108 σ109 =>
  pF σ109 v0 12 37 (aR (some q108)) fun σ111 =>
  nI_ σ111 201 ((((((((((((((((((((((bc - 1) - 1) - 1) - 1) - 1) - 1) - 1) - 1) - 1) - 1) - 1) - 1) - 1) - 1) - 1) - 1) - 1) - 1) - 1) - 1) - 1) - 1) ((((((((((((((((((((((bs - N3) - N10) - N15) - N20) - N25) - N30) - N35) - N40) - N45) - N50) - N55) - N60) - N65) - N70) - N75) - N80) - N85) - N90) - N95) - N100) - N105) - N110) fun N115 q113 σ114 =>
  pF σ114 v0 12 39 (aR (some q113)) fun σ116 =>
  K σ116
set_option maxRecDepth 100000 in
set_option maxHeartbeats 4000000 in
theorem b_X12_init_0 {l : Launch} {G : GG} {d : Nat} {v0 : Nat} {σ : Hp} {bc bs : Nat} {K : Hp → Prop} (hf : F_X12_init l G d v0 σ bc bs K) : Wd l G (d + 1) "CoinsLaidModel" yX12_init cX12_init 1 none 0 [(0, aR (some v0))] [] σ bc bs (xM (QV K)) := by
  unfold F_X12_init at hf
  refine r_aload_n (j := 0) rfl rfl dX12_init_0 ?_
  refine r_objInit wd_6_184 wd_1_37 wd_1_38 (Nat.le_add_left 1 d) (cat_ok (Nat.le_of_ble_eq_true rfl)) dX12_init_1 ?_
  refine r_aload_n (j := 0) rfl rfl dX12_init_4 ?_
  refine r_sipush (v := 900) (by decide) dX12_init_5 ?_
  obtain ⟨N3, hn_N3, hl_N3, hbc, hbs, hf⟩ := hf
  refine r_newI wd_1_80 hn_N3 hl_N3 hbc hbs dX12_init_8 (fun q1 hq_q1 => ?_)
  replace hf := hf q1 hq_q1
  refine Eq.mpr (congrArg (fun z => Wd _ _ _ _ _ _ _ _ _ _ _ z _ _ _) (rfl : _ = hset σ q1 (iA N3 fun _ => 0))) ?_
  generalize hset σ q1 (iA N3 fun _ => 0) = σ2 at hf ⊢
  obtain ⟨fs_x5, ha_x5, hf⟩ := hf
  generalize hσ4 : hset σ2 v0 (.inl (12, fs_x5.set 1 (aR (some q1)))) = σ4 at hf
  refine r_putF (Cn := RX12) (Tt := TX12) (N := 42) (n := 1) (v := aR (some q1)) rfl uw_X12 (Nat.le_of_ble_eq_true rfl) wd_6_187 ha_x5 (ty0 := tyX12) tyX12_ok nmX12 rfl rfl rfl (fo_A _ (some q1)) dX12_init_10 ?_
  rw [hσ4]
  refine r_aload_n (j := 0) rfl rfl dX12_init_13 ?_
  refine r_iconst (v := (-1)) (by decide) dX12_init_14 ?_
  obtain ⟨fs_x7, ha_x7, hf⟩ := hf
  generalize hσ6 : hset σ4 v0 (.inl (12, fs_x7.set 10 (aI (-1)))) = σ6 at hf
  refine r_put (Cn := RX12) (Tt := TX12) (N := 42) (n := 10) (v := aI (-1)) rfl uw_X12 (Nat.le_of_ble_eq_true rfl) wd_6_196 ha_x7 (ty0 := tyX12) tyX12_ok nmX12 rfl (fo_I (-1)) dX12_init_15 ?_
  rw [hσ6]
  refine r_aload_n (j := 0) rfl rfl dX12_init_18 ?_
  refine r_bipush (v := 8) (by decide) dX12_init_19 ?_
  obtain ⟨N10, hn_N10, hl_N10, hbc, hbs, hf⟩ := hf
  refine r_newI wd_1_80 hn_N10 hl_N10 hbc hbs dX12_init_21 (fun q8 hq_q8 => ?_)
  replace hf := hf q8 hq_q8
  refine Eq.mpr (congrArg (fun z => Wd _ _ _ _ _ _ _ _ _ _ _ z _ _ _) (rfl : _ = hset σ6 q8 (iA N10 fun _ => 0))) ?_
  generalize hset σ6 q8 (iA N10 fun _ => 0) = σ9 at hf ⊢
  obtain ⟨fs_x12, ha_x12, hf⟩ := hf
  generalize hσ11 : hset σ9 v0 (.inl (12, fs_x12.set 12 (aR (some q8)))) = σ11 at hf
  refine r_putF (Cn := RX12) (Tt := TX12) (N := 42) (n := 12) (v := aR (some q8)) rfl uw_X12 (Nat.le_of_ble_eq_true rfl) wd_6_198 ha_x12 (ty0 := tyX12) tyX12_ok nmX12 rfl rfl rfl (fo_A _ (some q8)) dX12_init_23 ?_
  rw [hσ11]
  refine r_aload_n (j := 0) rfl rfl dX12_init_26 ?_
  refine r_bipush (v := 100) (by decide) dX12_init_27 ?_
  obtain ⟨N15, hn_N15, hl_N15, hbc, hbs, hf⟩ := hf
  refine r_newI wd_1_80 hn_N15 hl_N15 hbc hbs dX12_init_29 (fun q13 hq_q13 => ?_)
  replace hf := hf q13 hq_q13
  refine Eq.mpr (congrArg (fun z => Wd _ _ _ _ _ _ _ _ _ _ _ z _ _ _) (rfl : _ = hset σ11 q13 (iA N15 fun _ => 0))) ?_
  generalize hset σ11 q13 (iA N15 fun _ => 0) = σ14 at hf ⊢
  obtain ⟨fs_x17, ha_x17, hf⟩ := hf
  generalize hσ16 : hset σ14 v0 (.inl (12, fs_x17.set 15 (aR (some q13)))) = σ16 at hf
  refine r_putF (Cn := RX12) (Tt := TX12) (N := 42) (n := 15) (v := aR (some q13)) rfl uw_X12 (Nat.le_of_ble_eq_true rfl) wd_6_201 ha_x17 (ty0 := tyX12) tyX12_ok nmX12 rfl rfl rfl (fo_A _ (some q13)) dX12_init_31 ?_
  rw [hσ16]
  refine r_aload_n (j := 0) rfl rfl dX12_init_34 ?_
  refine r_bipush (v := 100) (by decide) dX12_init_35 ?_
  obtain ⟨N20, hn_N20, hl_N20, hbc, hbs, hf⟩ := hf
  refine r_newI wd_1_80 hn_N20 hl_N20 hbc hbs dX12_init_37 (fun q18 hq_q18 => ?_)
  replace hf := hf q18 hq_q18
  refine Eq.mpr (congrArg (fun z => Wd _ _ _ _ _ _ _ _ _ _ _ z _ _ _) (rfl : _ = hset σ16 q18 (iA N20 fun _ => 0))) ?_
  generalize hset σ16 q18 (iA N20 fun _ => 0) = σ19 at hf ⊢
  obtain ⟨fs_x22, ha_x22, hf⟩ := hf
  generalize hσ21 : hset σ19 v0 (.inl (12, fs_x22.set 16 (aR (some q18)))) = σ21 at hf
  refine r_putF (Cn := RX12) (Tt := TX12) (N := 42) (n := 16) (v := aR (some q18)) rfl uw_X12 (Nat.le_of_ble_eq_true rfl) wd_6_202 ha_x22 (ty0 := tyX12) tyX12_ok nmX12 rfl rfl rfl (fo_A _ (some q18)) dX12_init_39 ?_
  rw [hσ21]
  refine r_aload_n (j := 0) rfl rfl dX12_init_42 ?_
  refine r_bipush (v := 16) (by decide) dX12_init_43 ?_
  obtain ⟨N25, hn_N25, hl_N25, hbc, hbs, hf⟩ := hf
  refine r_newI wd_1_80 hn_N25 hl_N25 hbc hbs dX12_init_45 (fun q23 hq_q23 => ?_)
  replace hf := hf q23 hq_q23
  refine Eq.mpr (congrArg (fun z => Wd _ _ _ _ _ _ _ _ _ _ _ z _ _ _) (rfl : _ = hset σ21 q23 (iA N25 fun _ => 0))) ?_
  generalize hset σ21 q23 (iA N25 fun _ => 0) = σ24 at hf ⊢
  obtain ⟨fs_x27, ha_x27, hf⟩ := hf
  generalize hσ26 : hset σ24 v0 (.inl (12, fs_x27.set 17 (aR (some q23)))) = σ26 at hf
  refine r_putF (Cn := RX12) (Tt := TX12) (N := 42) (n := 17) (v := aR (some q23)) rfl uw_X12 (Nat.le_of_ble_eq_true rfl) wd_6_203 ha_x27 (ty0 := tyX12) tyX12_ok nmX12 rfl rfl rfl (fo_A _ (some q23)) dX12_init_47 ?_
  rw [hσ26]
  refine r_aload_n (j := 0) rfl rfl dX12_init_50 ?_
  refine r_bipush (v := 16) (by decide) dX12_init_51 ?_
  obtain ⟨N30, hn_N30, hl_N30, hbc, hbs, hf⟩ := hf
  refine r_newI wd_1_80 hn_N30 hl_N30 hbc hbs dX12_init_53 (fun q28 hq_q28 => ?_)
  replace hf := hf q28 hq_q28
  refine Eq.mpr (congrArg (fun z => Wd _ _ _ _ _ _ _ _ _ _ _ z _ _ _) (rfl : _ = hset σ26 q28 (iA N30 fun _ => 0))) ?_
  generalize hset σ26 q28 (iA N30 fun _ => 0) = σ29 at hf ⊢
  obtain ⟨fs_x32, ha_x32, hf⟩ := hf
  generalize hσ31 : hset σ29 v0 (.inl (12, fs_x32.set 18 (aR (some q28)))) = σ31 at hf
  refine r_putF (Cn := RX12) (Tt := TX12) (N := 42) (n := 18) (v := aR (some q28)) rfl uw_X12 (Nat.le_of_ble_eq_true rfl) wd_6_204 ha_x32 (ty0 := tyX12) tyX12_ok nmX12 rfl rfl rfl (fo_A _ (some q28)) dX12_init_55 ?_
  rw [hσ31]
  refine r_aload_n (j := 0) rfl rfl dX12_init_58 ?_
  refine r_sipush (v := 256) (by decide) dX12_init_59 ?_
  obtain ⟨N35, hn_N35, hl_N35, hbc, hbs, hf⟩ := hf
  refine r_newI wd_1_80 hn_N35 hl_N35 hbc hbs dX12_init_62 (fun q33 hq_q33 => ?_)
  replace hf := hf q33 hq_q33
  refine Eq.mpr (congrArg (fun z => Wd _ _ _ _ _ _ _ _ _ _ _ z _ _ _) (rfl : _ = hset σ31 q33 (iA N35 fun _ => 0))) ?_
  generalize hset σ31 q33 (iA N35 fun _ => 0) = σ34 at hf ⊢
  obtain ⟨fs_x37, ha_x37, hf⟩ := hf
  generalize hσ36 : hset σ34 v0 (.inl (12, fs_x37.set 19 (aR (some q33)))) = σ36 at hf
  refine r_putF (Cn := RX12) (Tt := TX12) (N := 42) (n := 19) (v := aR (some q33)) rfl uw_X12 (Nat.le_of_ble_eq_true rfl) wd_6_205 ha_x37 (ty0 := tyX12) tyX12_ok nmX12 rfl rfl rfl (fo_A _ (some q33)) dX12_init_64 ?_
  rw [hσ36]
  refine r_aload_n (j := 0) rfl rfl dX12_init_67 ?_
  refine r_bipush (v := 48) (by decide) dX12_init_68 ?_
  obtain ⟨N40, hn_N40, hl_N40, hbc, hbs, hf⟩ := hf
  refine r_newI wd_1_80 hn_N40 hl_N40 hbc hbs dX12_init_70 (fun q38 hq_q38 => ?_)
  replace hf := hf q38 hq_q38
  refine Eq.mpr (congrArg (fun z => Wd _ _ _ _ _ _ _ _ _ _ _ z _ _ _) (rfl : _ = hset σ36 q38 (iA N40 fun _ => 0))) ?_
  generalize hset σ36 q38 (iA N40 fun _ => 0) = σ39 at hf ⊢
  obtain ⟨fs_x42, ha_x42, hf⟩ := hf
  generalize hσ41 : hset σ39 v0 (.inl (12, fs_x42.set 20 (aR (some q38)))) = σ41 at hf
  refine r_putF (Cn := RX12) (Tt := TX12) (N := 42) (n := 20) (v := aR (some q38)) rfl uw_X12 (Nat.le_of_ble_eq_true rfl) wd_6_206 ha_x42 (ty0 := tyX12) tyX12_ok nmX12 rfl rfl rfl (fo_A _ (some q38)) dX12_init_72 ?_
  rw [hσ41]
  refine r_aload_n (j := 0) rfl rfl dX12_init_75 ?_
  refine r_sipush (v := 224) (by decide) dX12_init_76 ?_
  obtain ⟨N45, hn_N45, hl_N45, hbc, hbs, hf⟩ := hf
  refine r_newI wd_1_80 hn_N45 hl_N45 hbc hbs dX12_init_79 (fun q43 hq_q43 => ?_)
  replace hf := hf q43 hq_q43
  refine Eq.mpr (congrArg (fun z => Wd _ _ _ _ _ _ _ _ _ _ _ z _ _ _) (rfl : _ = hset σ41 q43 (iA N45 fun _ => 0))) ?_
  generalize hset σ41 q43 (iA N45 fun _ => 0) = σ44 at hf ⊢
  obtain ⟨fs_x47, ha_x47, hf⟩ := hf
  generalize hσ46 : hset σ44 v0 (.inl (12, fs_x47.set 23 (aR (some q43)))) = σ46 at hf
  refine r_putF (Cn := RX12) (Tt := TX12) (N := 42) (n := 23) (v := aR (some q43)) rfl uw_X12 (Nat.le_of_ble_eq_true rfl) wd_6_209 ha_x47 (ty0 := tyX12) tyX12_ok nmX12 rfl rfl rfl (fo_A _ (some q43)) dX12_init_81 ?_
  rw [hσ46]
  refine r_aload_n (j := 0) rfl rfl dX12_init_84 ?_
  refine r_sipush (v := 224) (by decide) dX12_init_85 ?_
  obtain ⟨N50, hn_N50, hl_N50, hbc, hbs, hf⟩ := hf
  refine r_newI wd_1_80 hn_N50 hl_N50 hbc hbs dX12_init_88 (fun q48 hq_q48 => ?_)
  replace hf := hf q48 hq_q48
  refine Eq.mpr (congrArg (fun z => Wd _ _ _ _ _ _ _ _ _ _ _ z _ _ _) (rfl : _ = hset σ46 q48 (iA N50 fun _ => 0))) ?_
  generalize hset σ46 q48 (iA N50 fun _ => 0) = σ49 at hf ⊢
  obtain ⟨fs_x52, ha_x52, hf⟩ := hf
  generalize hσ51 : hset σ49 v0 (.inl (12, fs_x52.set 24 (aR (some q48)))) = σ51 at hf
  refine r_putF (Cn := RX12) (Tt := TX12) (N := 42) (n := 24) (v := aR (some q48)) rfl uw_X12 (Nat.le_of_ble_eq_true rfl) wd_6_210 ha_x52 (ty0 := tyX12) tyX12_ok nmX12 rfl rfl rfl (fo_A _ (some q48)) dX12_init_90 ?_
  rw [hσ51]
  refine r_aload_n (j := 0) rfl rfl dX12_init_93 ?_
  refine r_sipush (v := 224) (by decide) dX12_init_94 ?_
  obtain ⟨N55, hn_N55, hl_N55, hbc, hbs, hf⟩ := hf
  refine r_newI wd_1_80 hn_N55 hl_N55 hbc hbs dX12_init_97 (fun q53 hq_q53 => ?_)
  replace hf := hf q53 hq_q53
  refine Eq.mpr (congrArg (fun z => Wd _ _ _ _ _ _ _ _ _ _ _ z _ _ _) (rfl : _ = hset σ51 q53 (iA N55 fun _ => 0))) ?_
  generalize hset σ51 q53 (iA N55 fun _ => 0) = σ54 at hf ⊢
  obtain ⟨fs_x57, ha_x57, hf⟩ := hf
  generalize hσ56 : hset σ54 v0 (.inl (12, fs_x57.set 25 (aR (some q53)))) = σ56 at hf
  refine r_putF (Cn := RX12) (Tt := TX12) (N := 42) (n := 25) (v := aR (some q53)) rfl uw_X12 (Nat.le_of_ble_eq_true rfl) wd_6_211 ha_x57 (ty0 := tyX12) tyX12_ok nmX12 rfl rfl rfl (fo_A _ (some q53)) dX12_init_99 ?_
  rw [hσ56]
  refine r_aload_n (j := 0) rfl rfl dX12_init_102 ?_
  refine r_sipush (v := 224) (by decide) dX12_init_103 ?_
  obtain ⟨N60, hn_N60, hl_N60, hbc, hbs, hf⟩ := hf
  refine r_newI wd_1_80 hn_N60 hl_N60 hbc hbs dX12_init_106 (fun q58 hq_q58 => ?_)
  replace hf := hf q58 hq_q58
  refine Eq.mpr (congrArg (fun z => Wd _ _ _ _ _ _ _ _ _ _ _ z _ _ _) (rfl : _ = hset σ56 q58 (iA N60 fun _ => 0))) ?_
  generalize hset σ56 q58 (iA N60 fun _ => 0) = σ59 at hf ⊢
  obtain ⟨fs_x62, ha_x62, hf⟩ := hf
  generalize hσ61 : hset σ59 v0 (.inl (12, fs_x62.set 26 (aR (some q58)))) = σ61 at hf
  refine r_putF (Cn := RX12) (Tt := TX12) (N := 42) (n := 26) (v := aR (some q58)) rfl uw_X12 (Nat.le_of_ble_eq_true rfl) wd_6_212 ha_x62 (ty0 := tyX12) tyX12_ok nmX12 rfl rfl rfl (fo_A _ (some q58)) dX12_init_108 ?_
  rw [hσ61]
  refine r_aload_n (j := 0) rfl rfl dX12_init_111 ?_
  refine r_sipush (v := 224) (by decide) dX12_init_112 ?_
  obtain ⟨N65, hn_N65, hl_N65, hbc, hbs, hf⟩ := hf
  refine r_newI wd_1_80 hn_N65 hl_N65 hbc hbs dX12_init_115 (fun q63 hq_q63 => ?_)
  replace hf := hf q63 hq_q63
  refine Eq.mpr (congrArg (fun z => Wd _ _ _ _ _ _ _ _ _ _ _ z _ _ _) (rfl : _ = hset σ61 q63 (iA N65 fun _ => 0))) ?_
  generalize hset σ61 q63 (iA N65 fun _ => 0) = σ64 at hf ⊢
  obtain ⟨fs_x67, ha_x67, hf⟩ := hf
  generalize hσ66 : hset σ64 v0 (.inl (12, fs_x67.set 27 (aR (some q63)))) = σ66 at hf
  refine r_putF (Cn := RX12) (Tt := TX12) (N := 42) (n := 27) (v := aR (some q63)) rfl uw_X12 (Nat.le_of_ble_eq_true rfl) wd_6_213 ha_x67 (ty0 := tyX12) tyX12_ok nmX12 rfl rfl rfl (fo_A _ (some q63)) dX12_init_117 ?_
  rw [hσ66]
  refine r_aload_n (j := 0) rfl rfl dX12_init_120 ?_
  refine r_sipush (v := 224) (by decide) dX12_init_121 ?_
  obtain ⟨N70, hn_N70, hl_N70, hbc, hbs, hf⟩ := hf
  refine r_newI wd_1_80 hn_N70 hl_N70 hbc hbs dX12_init_124 (fun q68 hq_q68 => ?_)
  replace hf := hf q68 hq_q68
  refine Eq.mpr (congrArg (fun z => Wd _ _ _ _ _ _ _ _ _ _ _ z _ _ _) (rfl : _ = hset σ66 q68 (iA N70 fun _ => 0))) ?_
  generalize hset σ66 q68 (iA N70 fun _ => 0) = σ69 at hf ⊢
  obtain ⟨fs_x72, ha_x72, hf⟩ := hf
  generalize hσ71 : hset σ69 v0 (.inl (12, fs_x72.set 28 (aR (some q68)))) = σ71 at hf
  refine r_putF (Cn := RX12) (Tt := TX12) (N := 42) (n := 28) (v := aR (some q68)) rfl uw_X12 (Nat.le_of_ble_eq_true rfl) wd_6_214 ha_x72 (ty0 := tyX12) tyX12_ok nmX12 rfl rfl rfl (fo_A _ (some q68)) dX12_init_126 ?_
  rw [hσ71]
  refine r_aload_n (j := 0) rfl rfl dX12_init_129 ?_
  refine r_sipush (v := 224) (by decide) dX12_init_130 ?_
  obtain ⟨N75, hn_N75, hl_N75, hbc, hbs, hf⟩ := hf
  refine r_newI wd_1_80 hn_N75 hl_N75 hbc hbs dX12_init_133 (fun q73 hq_q73 => ?_)
  replace hf := hf q73 hq_q73
  refine Eq.mpr (congrArg (fun z => Wd _ _ _ _ _ _ _ _ _ _ _ z _ _ _) (rfl : _ = hset σ71 q73 (iA N75 fun _ => 0))) ?_
  generalize hset σ71 q73 (iA N75 fun _ => 0) = σ74 at hf ⊢
  obtain ⟨fs_x77, ha_x77, hf⟩ := hf
  generalize hσ76 : hset σ74 v0 (.inl (12, fs_x77.set 29 (aR (some q73)))) = σ76 at hf
  refine r_putF (Cn := RX12) (Tt := TX12) (N := 42) (n := 29) (v := aR (some q73)) rfl uw_X12 (Nat.le_of_ble_eq_true rfl) wd_6_215 ha_x77 (ty0 := tyX12) tyX12_ok nmX12 rfl rfl rfl (fo_A _ (some q73)) dX12_init_135 ?_
  rw [hσ76]
  refine r_aload_n (j := 0) rfl rfl dX12_init_138 ?_
  refine r_ldc wd_6_185 dX12_init_139 ?_
  obtain ⟨N80, hn_N80, hl_N80, hbc, hbs, hf⟩ := hf
  refine r_newI wd_1_80 hn_N80 hl_N80 hbc hbs dX12_init_141 (fun q78 hq_q78 => ?_)
  replace hf := hf q78 hq_q78
  refine Eq.mpr (congrArg (fun z => Wd _ _ _ _ _ _ _ _ _ _ _ z _ _ _) (rfl : _ = hset σ76 q78 (iA N80 fun _ => 0))) ?_
  generalize hset σ76 q78 (iA N80 fun _ => 0) = σ79 at hf ⊢
  obtain ⟨fs_x82, ha_x82, hf⟩ := hf
  generalize hσ81 : hset σ79 v0 (.inl (12, fs_x82.set 31 (aR (some q78)))) = σ81 at hf
  refine r_putF (Cn := RX12) (Tt := TX12) (N := 42) (n := 31) (v := aR (some q78)) rfl uw_X12 (Nat.le_of_ble_eq_true rfl) wd_6_217 ha_x82 (ty0 := tyX12) tyX12_ok nmX12 rfl rfl rfl (fo_A _ (some q78)) dX12_init_143 ?_
  rw [hσ81]
  refine r_aload_n (j := 0) rfl rfl dX12_init_146 ?_
  refine r_ldc wd_6_185 dX12_init_147 ?_
  obtain ⟨N85, hn_N85, hl_N85, hbc, hbs, hf⟩ := hf
  refine r_newI wd_1_80 hn_N85 hl_N85 hbc hbs dX12_init_149 (fun q83 hq_q83 => ?_)
  replace hf := hf q83 hq_q83
  refine Eq.mpr (congrArg (fun z => Wd _ _ _ _ _ _ _ _ _ _ _ z _ _ _) (rfl : _ = hset σ81 q83 (iA N85 fun _ => 0))) ?_
  generalize hset σ81 q83 (iA N85 fun _ => 0) = σ84 at hf ⊢
  obtain ⟨fs_x87, ha_x87, hf⟩ := hf
  generalize hσ86 : hset σ84 v0 (.inl (12, fs_x87.set 32 (aR (some q83)))) = σ86 at hf
  refine r_putF (Cn := RX12) (Tt := TX12) (N := 42) (n := 32) (v := aR (some q83)) rfl uw_X12 (Nat.le_of_ble_eq_true rfl) wd_6_218 ha_x87 (ty0 := tyX12) tyX12_ok nmX12 rfl rfl rfl (fo_A _ (some q83)) dX12_init_151 ?_
  rw [hσ86]
  refine r_aload_n (j := 0) rfl rfl dX12_init_154 ?_
  refine r_ldc wd_6_185 dX12_init_155 ?_
  obtain ⟨N90, hn_N90, hl_N90, hbc, hbs, hf⟩ := hf
  refine r_newI wd_1_80 hn_N90 hl_N90 hbc hbs dX12_init_157 (fun q88 hq_q88 => ?_)
  replace hf := hf q88 hq_q88
  refine Eq.mpr (congrArg (fun z => Wd _ _ _ _ _ _ _ _ _ _ _ z _ _ _) (rfl : _ = hset σ86 q88 (iA N90 fun _ => 0))) ?_
  generalize hset σ86 q88 (iA N90 fun _ => 0) = σ89 at hf ⊢
  obtain ⟨fs_x92, ha_x92, hf⟩ := hf
  generalize hσ91 : hset σ89 v0 (.inl (12, fs_x92.set 33 (aR (some q88)))) = σ91 at hf
  refine r_putF (Cn := RX12) (Tt := TX12) (N := 42) (n := 33) (v := aR (some q88)) rfl uw_X12 (Nat.le_of_ble_eq_true rfl) wd_6_219 ha_x92 (ty0 := tyX12) tyX12_ok nmX12 rfl rfl rfl (fo_A _ (some q88)) dX12_init_159 ?_
  rw [hσ91]
  refine r_aload_n (j := 0) rfl rfl dX12_init_162 ?_
  refine r_ldc wd_6_185 dX12_init_163 ?_
  obtain ⟨N95, hn_N95, hl_N95, hbc, hbs, hf⟩ := hf
  refine r_newI wd_1_80 hn_N95 hl_N95 hbc hbs dX12_init_165 (fun q93 hq_q93 => ?_)
  replace hf := hf q93 hq_q93
  refine Eq.mpr (congrArg (fun z => Wd _ _ _ _ _ _ _ _ _ _ _ z _ _ _) (rfl : _ = hset σ91 q93 (iA N95 fun _ => 0))) ?_
  generalize hset σ91 q93 (iA N95 fun _ => 0) = σ94 at hf ⊢
  obtain ⟨fs_x97, ha_x97, hf⟩ := hf
  generalize hσ96 : hset σ94 v0 (.inl (12, fs_x97.set 34 (aR (some q93)))) = σ96 at hf
  refine r_putF (Cn := RX12) (Tt := TX12) (N := 42) (n := 34) (v := aR (some q93)) rfl uw_X12 (Nat.le_of_ble_eq_true rfl) wd_6_220 ha_x97 (ty0 := tyX12) tyX12_ok nmX12 rfl rfl rfl (fo_A _ (some q93)) dX12_init_167 ?_
  rw [hσ96]
  refine r_aload_n (j := 0) rfl rfl dX12_init_170 ?_
  refine r_ldc wd_6_185 dX12_init_171 ?_
  obtain ⟨N100, hn_N100, hl_N100, hbc, hbs, hf⟩ := hf
  refine r_newI wd_1_80 hn_N100 hl_N100 hbc hbs dX12_init_173 (fun q98 hq_q98 => ?_)
  replace hf := hf q98 hq_q98
  refine Eq.mpr (congrArg (fun z => Wd _ _ _ _ _ _ _ _ _ _ _ z _ _ _) (rfl : _ = hset σ96 q98 (iA N100 fun _ => 0))) ?_
  generalize hset σ96 q98 (iA N100 fun _ => 0) = σ99 at hf ⊢
  obtain ⟨fs_x102, ha_x102, hf⟩ := hf
  generalize hσ101 : hset σ99 v0 (.inl (12, fs_x102.set 35 (aR (some q98)))) = σ101 at hf
  refine r_putF (Cn := RX12) (Tt := TX12) (N := 42) (n := 35) (v := aR (some q98)) rfl uw_X12 (Nat.le_of_ble_eq_true rfl) wd_6_221 ha_x102 (ty0 := tyX12) tyX12_ok nmX12 rfl rfl rfl (fo_A _ (some q98)) dX12_init_175 ?_
  rw [hσ101]
  refine r_aload_n (j := 0) rfl rfl dX12_init_178 ?_
  refine r_ldc wd_6_185 dX12_init_179 ?_
  obtain ⟨N105, hn_N105, hl_N105, hbc, hbs, hf⟩ := hf
  refine r_newI wd_1_80 hn_N105 hl_N105 hbc hbs dX12_init_181 (fun q103 hq_q103 => ?_)
  replace hf := hf q103 hq_q103
  refine Eq.mpr (congrArg (fun z => Wd _ _ _ _ _ _ _ _ _ _ _ z _ _ _) (rfl : _ = hset σ101 q103 (iA N105 fun _ => 0))) ?_
  generalize hset σ101 q103 (iA N105 fun _ => 0) = σ104 at hf ⊢
  obtain ⟨fs_x107, ha_x107, hf⟩ := hf
  generalize hσ106 : hset σ104 v0 (.inl (12, fs_x107.set 36 (aR (some q103)))) = σ106 at hf
  refine r_putF (Cn := RX12) (Tt := TX12) (N := 42) (n := 36) (v := aR (some q103)) rfl uw_X12 (Nat.le_of_ble_eq_true rfl) wd_6_222 ha_x107 (ty0 := tyX12) tyX12_ok nmX12 rfl rfl rfl (fo_A _ (some q103)) dX12_init_183 ?_
  rw [hσ106]
  refine r_aload_n (j := 0) rfl rfl dX12_init_186 ?_
  refine r_ldc wd_6_185 dX12_init_187 ?_
  obtain ⟨N110, hn_N110, hl_N110, hbc, hbs, hf⟩ := hf
  refine r_newJ wd_1_82 hn_N110 hl_N110 hbc hbs dX12_init_189 (fun q108 hq_q108 => ?_)
  replace hf := hf q108 hq_q108
  refine Eq.mpr (congrArg (fun z => Wd _ _ _ _ _ _ _ _ _ _ _ z _ _ _) (rfl : _ = hset σ106 q108 (jA N110 fun _ => 0))) ?_
  generalize hset σ106 q108 (jA N110 fun _ => 0) = σ109 at hf ⊢
  obtain ⟨fs_x112, ha_x112, hf⟩ := hf
  generalize hσ111 : hset σ109 v0 (.inl (12, fs_x112.set 37 (aR (some q108)))) = σ111 at hf
  refine r_putF (Cn := RX12) (Tt := TX12) (N := 42) (n := 37) (v := aR (some q108)) rfl uw_X12 (Nat.le_of_ble_eq_true rfl) wd_6_223 ha_x112 (ty0 := tyX12) tyX12_ok nmX12 rfl rfl rfl (fo_A _ (some q108)) dX12_init_191 ?_
  rw [hσ111]
  refine r_aload_n (j := 0) rfl rfl dX12_init_194 ?_
  refine r_sipush (v := 201) (by decide) dX12_init_195 ?_
  obtain ⟨N115, hn_N115, hl_N115, hbc, hbs, hf⟩ := hf
  refine r_newI wd_1_80 hn_N115 hl_N115 hbc hbs dX12_init_198 (fun q113 hq_q113 => ?_)
  replace hf := hf q113 hq_q113
  refine Eq.mpr (congrArg (fun z => Wd _ _ _ _ _ _ _ _ _ _ _ z _ _ _) (rfl : _ = hset σ111 q113 (iA N115 fun _ => 0))) ?_
  generalize hset σ111 q113 (iA N115 fun _ => 0) = σ114 at hf ⊢
  obtain ⟨fs_x117, ha_x117, hf⟩ := hf
  generalize hσ116 : hset σ114 v0 (.inl (12, fs_x117.set 39 (aR (some q113)))) = σ116 at hf
  refine r_putF (Cn := RX12) (Tt := TX12) (N := 42) (n := 39) (v := aR (some q113)) rfl uw_X12 (Nat.le_of_ble_eq_true rfl) wd_6_225 ha_x117 (ty0 := tyX12) tyX12_ok nmX12 rfl rfl rfl (fo_A _ (some q113)) dX12_init_200 ?_
  rw [hσ116]
  exact r_return rfl dX12_init_203 rfl ⟨rfl, hf⟩
theorem m_X12_init {l : Launch} {G : GG} {d : Nat} {mc ms : Nat} {v0 : Nat} {σ : Hp} {K : Hp → Prop} (hf : F_X12_init l G d v0 σ mc ms K) : C_X12_init l G (d + 1) mc ms v0 σ K := Sp.of (by decide) (Nat.le_of_ble_eq_true rfl) (b_X12_init_0 hf) rfl
def F_X12_thrown (l : Launch) (G : GG) (d : Nat) (v0 : Nat) (σ : Hp) (K : Int32 → Hp → Prop) : Prop :=
  fI σ v0 12 0 fun x1 =>
  K x1 σ
set_option maxRecDepth 100000 in
set_option maxHeartbeats 4000000 in
theorem b_X12_thrown_0 {l : Launch} {G : GG} {d : Nat} {v0 : Nat} {σ : Hp} {K : Int32 → Hp → Prop} (hf : F_X12_thrown l G d v0 σ K) : Wd l G (d + 1) "CoinsLaidModel" yX12_thrown cX12_thrown 1 (some FieldType.int) 0 [(0, aR (some v0))] [] σ 0 0 (xM (QI K)) := by
  unfold F_X12_thrown at hf
  refine r_aload_n (j := 0) rfl rfl dX12_thrown_0 ?_
  obtain ⟨fs_x1, x1, ha_x1, hv_x1, hf⟩ := hf
  refine r_get (Cn := RX12) (Tt := TX12) (N := 42) (n := 0) rfl uw_X12 (Nat.le_of_ble_eq_true rfl) wd_6_186 ha_x1 hv_x1 dX12_thrown_1 ?_
  exact r_ireturn rfl dX12_thrown_4 rfl ⟨_, rfl, hf⟩
theorem m_X12_thrown {l : Launch} {G : GG} {d : Nat} {v0 : Nat} {σ : Hp} {K : Int32 → Hp → Prop} (hr : rv σ v0 12) (hf : F_X12_thrown l G d v0 σ K) : C_X12_thrown l G (d + 1) v0 σ K := ⟨hr, Sp.of (by decide) (Nat.le_of_ble_eq_true rfl) (b_X12_thrown_0 hf) rfl⟩
def F_X12_clear (l : Launch) (G : GG) (d : Nat) (v0 : Nat) (σ : Hp) (K : Hp → Prop) : Prop :=
  pF σ v0 12 0 (aI 0) fun σ1 =>
  pF σ1 v0 12 11 (aI 0) fun σ3 =>
  K σ3
set_option maxRecDepth 100000 in
set_option maxHeartbeats 4000000 in
theorem b_X12_clear_0 {l : Launch} {G : GG} {d : Nat} {v0 : Nat} {σ : Hp} {K : Hp → Prop} (hf : F_X12_clear l G d v0 σ K) : Wd l G (d + 1) "CoinsLaidModel" yX12_clear cX12_clear 1 none 0 [(0, aR (some v0))] [] σ 0 0 (xM (QV K)) := by
  unfold F_X12_clear at hf
  refine r_aload_n (j := 0) rfl rfl dX12_clear_0 ?_
  refine r_iconst (v := 0) (by decide) dX12_clear_1 ?_
  obtain ⟨fs_x2, ha_x2, hf⟩ := hf
  generalize hσ1 : hset σ v0 (.inl (12, fs_x2.set 0 (aI 0))) = σ1 at hf
  refine r_put (Cn := RX12) (Tt := TX12) (N := 42) (n := 0) (v := aI 0) rfl uw_X12 (Nat.le_of_ble_eq_true rfl) wd_6_186 ha_x2 (ty0 := tyX12) tyX12_ok nmX12 rfl (fo_I 0) dX12_clear_2 ?_
  rw [hσ1]
  refine r_aload_n (j := 0) rfl rfl dX12_clear_5 ?_
  refine r_iconst (v := 0) (by decide) dX12_clear_6 ?_
  obtain ⟨fs_x4, ha_x4, hf⟩ := hf
  generalize hσ3 : hset σ1 v0 (.inl (12, fs_x4.set 11 (aI 0))) = σ3 at hf
  refine r_put (Cn := RX12) (Tt := TX12) (N := 42) (n := 11) (v := aI 0) rfl uw_X12 (Nat.le_of_ble_eq_true rfl) wd_6_197 ha_x4 (ty0 := tyX12) tyX12_ok nmX12 rfl (fo_I 0) dX12_clear_7 ?_
  rw [hσ3]
  exact r_return rfl dX12_clear_10 rfl ⟨rfl, hf⟩
theorem m_X12_clear {l : Launch} {G : GG} {d : Nat} {v0 : Nat} {σ : Hp} {K : Hp → Prop} (hr : rv σ v0 12) (hf : F_X12_clear l G d v0 σ K) : C_X12_clear l G (d + 1) v0 σ K := ⟨hr, Sp.of (by decide) (Nat.le_of_ble_eq_true rfl) (b_X12_clear_0 hf) rfl⟩
def F_X12_no (l : Launch) (G : GG) (d : Nat) (v0 : Nat) (v1 : Int32) (σ : Hp) (K : Int32 → Hp → Prop) : Prop :=
  pF σ v0 12 11 (aI v1) fun σ1 =>
  K (-1) σ1
set_option maxRecDepth 100000 in
set_option maxHeartbeats 4000000 in
theorem b_X12_no_0 {l : Launch} {G : GG} {d : Nat} {v0 : Nat} {v1 : Int32} {σ : Hp} {K : Int32 → Hp → Prop} (hf : F_X12_no l G d v0 v1 σ K) : Wd l G (d + 1) "CoinsLaidModel" yX12_no cX12_no 2 (some FieldType.int) 0 [(0, aR (some v0)), (1, aI v1)] [] σ 0 0 (xM (QI K)) := by
  unfold F_X12_no at hf
  refine r_aload_n (j := 0) rfl rfl dX12_no_0 ?_
  refine r_iload_n (j := 1) rfl rfl dX12_no_1 ?_
  obtain ⟨fs_x2, ha_x2, hf⟩ := hf
  generalize hσ1 : hset σ v0 (.inl (12, fs_x2.set 11 (aI v1))) = σ1 at hf
  refine r_put (Cn := RX12) (Tt := TX12) (N := 42) (n := 11) (v := aI v1) rfl uw_X12 (Nat.le_of_ble_eq_true rfl) wd_6_197 ha_x2 (ty0 := tyX12) tyX12_ok nmX12 rfl (fo_I v1) dX12_no_2 ?_
  rw [hσ1]
  refine r_iconst (v := (-1)) (by decide) dX12_no_5 ?_
  exact r_ireturn rfl dX12_no_6 rfl ⟨_, rfl, hf⟩
theorem m_X12_no {l : Launch} {G : GG} {d : Nat} {v0 : Nat} {v1 : Int32} {σ : Hp} {K : Int32 → Hp → Prop} (hr : rv σ v0 12) (hf : F_X12_no l G d v0 v1 σ K) : C_X12_no l G (d + 1) v0 v1 σ K := ⟨hr, Sp.of (by decide) (Nat.le_of_ble_eq_true rfl) (b_X12_no_0 hf) rfl⟩
def F_X12_isNot (l : Launch) (G : GG) (d : Nat) (v0 : Nat) (v1 : Int32) (σ : Hp) (K : Bool → Hp → Prop) : Prop :=
  pF σ v0 12 11 (aI v1) fun σ1 =>
  K false σ1
set_option maxRecDepth 100000 in
set_option maxHeartbeats 4000000 in
theorem b_X12_isNot_0 {l : Launch} {G : GG} {d : Nat} {v0 : Nat} {v1 : Int32} {σ : Hp} {K : Bool → Hp → Prop} (hf : F_X12_isNot l G d v0 v1 σ K) : Wd l G (d + 1) "CoinsLaidModel" yX12_isNot cX12_isNot 2 (some FieldType.boolean) 0 [(0, aR (some v0)), (1, aI v1)] [] σ 0 0 (xM (QZ K)) := by
  unfold F_X12_isNot at hf
  refine r_aload_n (j := 0) rfl rfl dX12_isNot_0 ?_
  refine r_iload_n (j := 1) rfl rfl dX12_isNot_1 ?_
  obtain ⟨fs_x2, ha_x2, hf⟩ := hf
  generalize hσ1 : hset σ v0 (.inl (12, fs_x2.set 11 (aI v1))) = σ1 at hf
  refine r_put (Cn := RX12) (Tt := TX12) (N := 42) (n := 11) (v := aI v1) rfl uw_X12 (Nat.le_of_ble_eq_true rfl) wd_6_197 ha_x2 (ty0 := tyX12) tyX12_ok nmX12 rfl (fo_I v1) dX12_isNot_2 ?_
  rw [hσ1]
  refine r_iconst (v := 0) (by decide) dX12_isNot_5 ?_
  exact r_zreturn (b := false) rfl dX12_isNot_6 rfl ⟨_, rfl, hf⟩
theorem m_X12_isNot {l : Launch} {G : GG} {d : Nat} {v0 : Nat} {v1 : Int32} {σ : Hp} {K : Bool → Hp → Prop} (hr : rv σ v0 12) (hf : F_X12_isNot l G d v0 v1 σ K) : C_X12_isNot l G (d + 1) v0 v1 σ K := ⟨hr, Sp.of (by decide) (Nat.le_of_ble_eq_true rfl) (b_X12_isNot_0 hf) rfl⟩
def F_X12_within_15 (l : Launch) (G : GG) (d : Nat) (s0 : Bool) (σ : Hp) (K : Bool → Hp → Prop) : Prop :=
  K s0 σ
set_option maxRecDepth 100000 in
set_option maxHeartbeats 4000000 in
theorem b_X12_within_15 {l : Launch} {G : GG} {d : Nat} {s0 : Bool} {σ : Hp} {K : Bool → Hp → Prop} (hf : F_X12_within_15 l G d s0 σ K) : Wd l G (d + 1) "CoinsLaidModel" yX12_within cX12_within 3 (some FieldType.boolean) 15 [] [aI (bi s0)] σ 0 0 (xM (QZ K)) := by
  unfold F_X12_within_15 at hf
  exact r_zreturn (b := s0) rfl dX12_within_15 rfl ⟨_, rfl, hf⟩
def F_X12_within_14 (l : Launch) (G : GG) (d : Nat) (σ : Hp) (K : Bool → Hp → Prop) : Prop :=
  F_X12_within_15 l G d false σ K
set_option maxRecDepth 100000 in
set_option maxHeartbeats 4000000 in
theorem b_X12_within_14 {l : Launch} {G : GG} {d : Nat} {σ : Hp} {K : Bool → Hp → Prop} (hf : F_X12_within_14 l G d  σ K) : Wd l G (d + 1) "CoinsLaidModel" yX12_within cX12_within 3 (some FieldType.boolean) 14 [] [] σ 0 0 (xM (QZ K)) := by
  unfold F_X12_within_14 at hf
  refine r_iconst (v := 0) (by decide) dX12_within_14 ?_
  exact r_sub [] rfl (b_X12_within_15 hf)
def F_X12_within (l : Launch) (G : GG) (d : Nat) (v0 : Int32) (v1 : Int32) (v2 : Int32) (σ : Hp) (K : Bool → Hp → Prop) : Prop :=
  ((v0 : Int32) < (v1 : Int32) →
    F_X12_within_14 l G d σ K) ∧
  (¬ (v0 : Int32) < (v1 : Int32) →
    ((v2 : Int32) < (v0 : Int32) →
      F_X12_within_14 l G d σ K) ∧
    (¬ (v2 : Int32) < (v0 : Int32) →
      F_X12_within_15 l G d true σ K))
set_option maxRecDepth 100000 in
set_option maxHeartbeats 4000000 in
theorem b_X12_within_0 {l : Launch} {G : GG} {d : Nat} {v0 : Int32} {v1 : Int32} {v2 : Int32} {σ : Hp} {K : Bool → Hp → Prop} (hf : F_X12_within l G d v0 v1 v2 σ K) : Wd l G (d + 1) "CoinsLaidModel" yX12_within cX12_within 3 (some FieldType.boolean) 0 [(0, aI v0), (1, aI v1), (2, aI v2)] [] σ 0 0 (xM (QZ K)) := by
  unfold F_X12_within at hf
  refine r_iload_n (j := 0) rfl rfl dX12_within_0 ?_
  refine r_iload_n (j := 1) rfl rfl dX12_within_1 ?_
  refine r_icmplt (x := v0) (y := v1) (tgt := 14) (by decide) dX12_within_2 (fun hc => ?_) (fun hc => ?_)
  · replace hf := hf.1 hc
    exact r_sub [] rfl (b_X12_within_14 hf)
  · replace hf := hf.2 hc
    refine r_iload_n (j := 0) rfl rfl dX12_within_5 ?_
    refine r_iload_n (j := 2) rfl rfl dX12_within_6 ?_
    refine r_icmpgt (x := v0) (y := v2) (tgt := 14) (by decide) dX12_within_7 (fun hc => ?_) (fun hc => ?_)
    · replace hf := hf.1 hc
      exact r_sub [] rfl (b_X12_within_14 hf)
    · replace hf := hf.2 hc
      refine r_iconst (v := 1) (by decide) dX12_within_10 ?_
      refine r_goto (tgt := 15) (by decide) dX12_within_11 ?_
      exact r_sub [] rfl (b_X12_within_15 hf)
theorem m_X12_within {l : Launch} {G : GG} {d : Nat} {v0 : Int32} {v1 : Int32} {v2 : Int32} {σ : Hp} {K : Bool → Hp → Prop} (hf : F_X12_within l G d v0 v1 v2 σ K) : C_X12_within l G (d + 1) v0 v1 v2 σ K := Sp.of (by decide) (Nat.le_of_ble_eq_true rfl) (b_X12_within_0 hf) rfl
def F_X12_hasBit_14 (l : Launch) (G : GG) (d : Nat) (s0 : Bool) (σ : Hp) (K : Bool → Hp → Prop) : Prop :=
  K s0 σ
set_option maxRecDepth 100000 in
set_option maxHeartbeats 4000000 in
theorem b_X12_hasBit_14 {l : Launch} {G : GG} {d : Nat} {s0 : Bool} {σ : Hp} {K : Bool → Hp → Prop} (hf : F_X12_hasBit_14 l G d s0 σ K) : Wd l G (d + 1) "CoinsLaidModel" yX12_hasBit cX12_hasBit 2 (some FieldType.boolean) 14 [] [aI (bi s0)] σ 0 0 (xM (QZ K)) := by
  unfold F_X12_hasBit_14 at hf
  exact r_zreturn (b := s0) rfl dX12_hasBit_14 rfl ⟨_, rfl, hf⟩
def F_X12_hasBit (l : Launch) (G : GG) (d : Nat) (v0 : Int32) (v1 : Int32) (σ : Hp) (K : Bool → Hp → Prop) : Prop :=
  (¬ (((v0 >>> (v1 &&& 31)) &&& 1) : Int32) = (1 : Int32) →
    F_X12_hasBit_14 l G d false σ K) ∧
  ((((v0 >>> (v1 &&& 31)) &&& 1) : Int32) = (1 : Int32) →
    F_X12_hasBit_14 l G d true σ K)
set_option maxRecDepth 100000 in
set_option maxHeartbeats 4000000 in
theorem b_X12_hasBit_0 {l : Launch} {G : GG} {d : Nat} {v0 : Int32} {v1 : Int32} {σ : Hp} {K : Bool → Hp → Prop} (hf : F_X12_hasBit l G d v0 v1 σ K) : Wd l G (d + 1) "CoinsLaidModel" yX12_hasBit cX12_hasBit 2 (some FieldType.boolean) 0 [(0, aI v0), (1, aI v1)] [] σ 0 0 (xM (QZ K)) := by
  unfold F_X12_hasBit at hf
  refine r_iload_n (j := 0) rfl rfl dX12_hasBit_0 ?_
  refine r_iload_n (j := 1) rfl rfl dX12_hasBit_1 ?_
  refine r_ishr (x := v0) (y := v1) dX12_hasBit_2 ?_
  refine r_iconst (v := 1) (by decide) dX12_hasBit_3 ?_
  refine r_iand (x := (v0 >>> (v1 &&& 31))) (y := 1) dX12_hasBit_4 ?_
  refine r_iconst (v := 1) (by decide) dX12_hasBit_5 ?_
  refine r_icmpne (x := ((v0 >>> (v1 &&& 31)) &&& 1)) (y := 1) (tgt := 13) (by decide) dX12_hasBit_6 (fun hc => ?_) (fun hc => ?_)
  · replace hf := hf.1 hc
    refine r_iconst (v := 0) (by decide) dX12_hasBit_13 ?_
    exact r_sub [] rfl (b_X12_hasBit_14 hf)
  · replace hf := hf.2 hc
    refine r_iconst (v := 1) (by decide) dX12_hasBit_9 ?_
    refine r_goto (tgt := 14) (by decide) dX12_hasBit_10 ?_
    exact r_sub [] rfl (b_X12_hasBit_14 hf)
theorem m_X12_hasBit {l : Launch} {G : GG} {d : Nat} {v0 : Int32} {v1 : Int32} {σ : Hp} {K : Bool → Hp → Prop} (hf : F_X12_hasBit l G d v0 v1 σ K) : C_X12_hasBit l G (d + 1) v0 v1 σ K := Sp.of (by decide) (Nat.le_of_ble_eq_true rfl) (b_X12_hasBit_0 hf) rfl
def F_X12_copy_3 (l : Launch) (G : GG) (d : Nat) (X3 : Nat → Int32 → Nat → Int32 → Int32 → Int32 → Hp → Prop) (v0 : Nat) (v1 : Int32) (v2 : Nat) (v3 : Int32) (v4 : Int32) (v5 : Int32) (σ : Hp) (K : Hp → Prop) : Prop :=
  ((v4 : Int32) ≤ (v5 : Int32) →
    K σ) ∧
  (¬ (v4 : Int32) ≤ (v5 : Int32) →
    gI σ v0 (v1 + v5) fun x1 =>
    sI σ v2 (v3 + v5) x1 fun σ2 =>
    X3 v0 v1 v2 v3 v4 (v5 + 1) σ2)
set_option maxRecDepth 100000 in
set_option maxHeartbeats 4000000 in
theorem b_X12_copy_3 {l : Launch} {G : GG} {d : Nat} {X3 : Nat → Int32 → Nat → Int32 → Int32 → Int32 → Hp → Prop} {v0 : Nat} {v1 : Int32} {v2 : Nat} {v3 : Int32} {v4 : Int32} {v5 : Int32} {σ : Hp} {K : Hp → Prop} (hX3 : ∀ v0 v1 v2 v3 v4 v5 σ, X3 v0 v1 v2 v3 v4 v5 σ → Wd l G (d + 1) "CoinsLaidModel" yX12_copy cX12_copy 6 none 3 [(0, aR (some v0)), (1, aI v1), (2, aR (some v2)), (3, aI v3), (4, aI v4), (5, aI v5)] [] σ 0 0 (xM (QV K))) (hf : F_X12_copy_3 l G d X3 v0 v1 v2 v3 v4 v5 σ K) : Wd l G (d + 1) "CoinsLaidModel" yX12_copy cX12_copy 6 none 3 [(0, aR (some v0)), (1, aI v1), (2, aR (some v2)), (3, aI v3), (4, aI v4), (5, aI v5)] [] σ 0 0 (xM (QV K)) := by
  unfold F_X12_copy_3 at hf
  refine r_iload (j := 5) rfl dX12_copy_3 ?_
  refine r_iload (j := 4) rfl dX12_copy_5 ?_
  refine r_icmpge (x := v5) (y := v4) (tgt := 28) (by decide) dX12_copy_7 (fun hc => ?_) (fun hc => ?_)
  · replace hf := hf.1 hc
    exact r_return rfl dX12_copy_28 rfl ⟨rfl, hf⟩
  · replace hf := hf.2 hc
    refine r_aload_n (j := 2) rfl rfl dX12_copy_10 ?_
    refine r_iload_n (j := 3) rfl rfl dX12_copy_11 ?_
    refine r_iload (j := 5) rfl dX12_copy_12 ?_
    refine r_iadd (x := v3) (y := v5) dX12_copy_14 ?_
    refine r_aload_n (j := 0) rfl rfl dX12_copy_15 ?_
    refine r_iload_n (j := 1) rfl rfl dX12_copy_16 ?_
    refine r_iload (j := 5) rfl dX12_copy_17 ?_
    refine r_iadd (x := v1) (y := v5) dX12_copy_19 ?_
    obtain ⟨N_x1, f_x1, ha_x1, hi_x1, hf⟩ := hf
    refine r_iald ha_x1 hi_x1 dX12_copy_20 ?_
    generalize f_x1 ((v1 + v5) : Int32).toNatClampNeg = x1 at hf ⊢
    obtain ⟨N_x3, f_x3, ha_x3, hi_x3, hf⟩ := hf
    generalize hσ2 : hset σ v2 (iA N_x3 (up_ f_x3 ((v3 + v5) : Int32).toNatClampNeg x1)) = σ2 at hf
    refine r_iast (f := f_x3) (x := x1) ha_x3 hi_x3 dX12_copy_21 ?_
    refine Eq.mpr (congrArg (fun z => Wd _ _ _ _ _ _ _ _ _ _ _ z _ _ _) hσ2) ?_
    refine r_iinc (j := 5) (w := (v5 + 1)) (L' := [(5, aI (v5 + 1)), (0, aR (some v0)), (1, aI v1), (2, aR (some v2)), (3, aI v3), (4, aI v4)]) rfl (by rfl) rfl (Nat.le_of_ble_eq_true rfl) dX12_copy_22 ?_
    refine r_goto (tgt := 3) (by decide) dX12_copy_25 ?_
    exact r_sub [1, 2, 3, 4, 5, 0] rfl (hX3 _ _ _ _ _ _ _ hf)
def Z_X12_copy_3 (l : Launch) (G : GG) (d : Nat) (K : Hp → Prop) : Nat → Nat → Int32 → Nat → Int32 → Int32 → Int32 → Hp → Prop
  | 0 => fun _ _ _ _ _ _ _ => False
  | n + 1 => fun v0 v1 v2 v3 v4 v5 σ => F_X12_copy_3 l G d (Z_X12_copy_3 l G d K n) v0 v1 v2 v3 v4 v5 σ K
theorem z_X12_copy_3 {l : Launch} {G : GG} {d : Nat} {K : Hp → Prop} : ∀ (n : Nat) v0 v1 v2 v3 v4 v5 σ, Z_X12_copy_3 l G d K n v0 v1 v2 v3 v4 v5 σ → Wd l G (d + 1) "CoinsLaidModel" yX12_copy cX12_copy 6 none 3 [(0, aR (some v0)), (1, aI v1), (2, aR (some v2)), (3, aI v3), (4, aI v4), (5, aI v5)] [] σ 0 0 (xM (QV K)) := by
  intro n
  induction n with
  | zero => intro v0 v1 v2 v3 v4 v5 σ hf; exact hf.elim
  | succ n ih => intro v0 v1 v2 v3 v4 v5 σ hf; exact b_X12_copy_3 ih hf
def F_X12_copy (l : Launch) (G : GG) (d : Nat) (v0 : Nat) (v1 : Int32) (v2 : Nat) (v3 : Int32) (v4 : Int32) (σ : Hp) (K : Hp → Prop) : Prop :=
  ∃ n, Z_X12_copy_3 l G d K n v0 v1 v2 v3 v4 0 σ
set_option maxRecDepth 100000 in
set_option maxHeartbeats 4000000 in
theorem b_X12_copy_0 {l : Launch} {G : GG} {d : Nat} {v0 : Nat} {v1 : Int32} {v2 : Nat} {v3 : Int32} {v4 : Int32} {σ : Hp} {K : Hp → Prop} (hf : F_X12_copy l G d v0 v1 v2 v3 v4 σ K) : Wd l G (d + 1) "CoinsLaidModel" yX12_copy cX12_copy 6 none 0 [(0, aR (some v0)), (1, aI v1), (2, aR (some v2)), (3, aI v3), (4, aI v4)] [] σ 0 0 (xM (QV K)) := by
  unfold F_X12_copy at hf
  refine r_iconst (v := 0) (by decide) dX12_copy_0 ?_
  refine r_istore (L' := [(5, aI 0), (0, aR (some v0)), (1, aI v1), (2, aR (some v2)), (3, aI v3), (4, aI v4)]) rfl (Nat.le_of_ble_eq_true rfl) dX12_copy_1 ?_
  obtain ⟨n, hf⟩ := hf
  exact r_sub [1, 2, 3, 4, 5, 0] rfl (z_X12_copy_3 n _ _ _ _ _ _ _ hf)
theorem m_X12_copy {l : Launch} {G : GG} {d : Nat} {v0 : Nat} {v1 : Int32} {v2 : Nat} {v3 : Int32} {v4 : Int32} {σ : Hp} {K : Hp → Prop} (hf : F_X12_copy l G d v0 v1 v2 v3 v4 σ K) : C_X12_copy l G (d + 1) v0 v1 v2 v3 v4 σ K := Sp.of (by decide) (Nat.le_of_ble_eq_true rfl) (b_X12_copy_0 hf) rfl
def F_X12_feed_76 (l : Launch) (G : GG) (d : Nat) (X23 : Nat → Int32 → Int32 → Int32 → Int32 → Int32 → Int32 → Hp → Prop) (v0 : Nat) (v1 : Int32) (v2 : Int32) (v3 : Int32) (v4 : Int32) (v5 : Int32) (v6 : Int32) (s0 : Int32) (σ : Hp) (K : Int32 → Hp → Prop) : Prop :=
  fN σ v0 12 1 fun x1 =>
  fI σ v0 12 2 fun x2 =>
  ¬ (4 : Int32) = 0 ∧
  sI σ x1 x2 ((s0 >>> ((24 - (8 * (v6 - v6 / 4 * 4))) &&& 31)) &&& 255) fun σ3 =>
  fI σ3 v0 12 2 fun x5 =>
  pF σ3 v0 12 2 (aI (x5 + 1)) fun σ6 =>
  X23 v0 v1 v2 v3 v4 v5 (v6 + 1) σ6
set_option maxRecDepth 100000 in
set_option maxHeartbeats 4000000 in
theorem b_X12_feed_76 {l : Launch} {G : GG} {d : Nat} {X23 : Nat → Int32 → Int32 → Int32 → Int32 → Int32 → Int32 → Hp → Prop} {v0 : Nat} {v1 : Int32} {v2 : Int32} {v3 : Int32} {v4 : Int32} {v5 : Int32} {v6 : Int32} {s0 : Int32} {σ : Hp} {K : Int32 → Hp → Prop} (hX23 : ∀ v0 v1 v2 v3 v4 v5 v6 σ, X23 v0 v1 v2 v3 v4 v5 v6 σ → Wd l G (d + 1) "CoinsLaidModel" yX12_feed cX12_feed 8 (some FieldType.int) 23 [(0, aR (some v0)), (1, aI v1), (2, aI v2), (3, aI v3), (4, aI v4), (5, aI v5), (6, aI v6)] [] σ 0 0 (xM (QI K))) (hf : F_X12_feed_76 l G d X23 v0 v1 v2 v3 v4 v5 v6 s0 σ K) : Wd l G (d + 1) "CoinsLaidModel" yX12_feed cX12_feed 8 (some FieldType.int) 76 [(0, aR (some v0)), (1, aI v1), (2, aI v2), (3, aI v3), (4, aI v4), (5, aI v5), (6, aI v6)] [aI s0] σ 0 0 (xM (QI K)) := by
  unfold F_X12_feed_76 at hf
  refine r_istore (L' := [(7, aI s0), (0, aR (some v0)), (1, aI v1), (2, aI v2), (3, aI v3), (4, aI v4), (5, aI v5), (6, aI v6)]) rfl (Nat.le_of_ble_eq_true rfl) dX12_feed_76 ?_
  refine r_aload_n (j := 1) rfl rfl dX12_feed_78 ?_
  obtain ⟨fs_x1, x1, ha_x1, hv_x1, hf⟩ := hf
  refine r_get (Cn := RX12) (Tt := TX12) (N := 42) (n := 1) rfl uw_X12 (Nat.le_of_ble_eq_true rfl) wd_6_187 ha_x1 hv_x1 dX12_feed_79 ?_
  refine r_aload_n (j := 1) rfl rfl dX12_feed_82 ?_
  obtain ⟨fs_x2, x2, ha_x2, hv_x2, hf⟩ := hf
  refine r_get (Cn := RX12) (Tt := TX12) (N := 42) (n := 2) rfl uw_X12 (Nat.le_of_ble_eq_true rfl) wd_6_188 ha_x2 hv_x2 dX12_feed_83 ?_
  refine r_iload (j := 0) rfl dX12_feed_86 ?_
  refine r_bipush (v := 24) (by decide) dX12_feed_88 ?_
  refine r_bipush (v := 8) (by decide) dX12_feed_90 ?_
  refine r_iload (j := 7) rfl dX12_feed_92 ?_
  refine r_iconst (v := 4) (by decide) dX12_feed_94 ?_
  obtain ⟨hne, hf⟩ := hf
  refine r_irem hne dX12_feed_95 ?_
  refine r_imul (x := 8) (y := (v6 - v6 / 4 * 4)) dX12_feed_96 ?_
  refine r_isub (x := 24) (y := (8 * (v6 - v6 / 4 * 4))) dX12_feed_97 ?_
  refine r_ishr (x := s0) (y := (24 - (8 * (v6 - v6 / 4 * 4)))) dX12_feed_98 ?_
  refine r_sipush (v := 255) (by decide) dX12_feed_99 ?_
  refine r_iand (x := (s0 >>> ((24 - (8 * (v6 - v6 / 4 * 4))) &&& 31))) (y := 255) dX12_feed_102 ?_
  obtain ⟨N_x4, f_x4, ha_x4, hi_x4, hf⟩ := hf
  generalize hσ3 : hset σ x1 (iA N_x4 (up_ f_x4 (x2 : Int32).toNatClampNeg ((s0 >>> ((24 - (8 * (v6 - v6 / 4 * 4))) &&& 31)) &&& 255))) = σ3 at hf
  refine r_iast (f := f_x4) (x := ((s0 >>> ((24 - (8 * (v6 - v6 / 4 * 4))) &&& 31)) &&& 255)) ha_x4 hi_x4 dX12_feed_103 ?_
  refine Eq.mpr (congrArg (fun z => Wd _ _ _ _ _ _ _ _ _ _ _ z _ _ _) hσ3) ?_
  refine r_aload_n (j := 1) rfl rfl dX12_feed_104 ?_
  refine r_dup rfl dX12_feed_105 ?_
  obtain ⟨fs_x5, x5, ha_x5, hv_x5, hf⟩ := hf
  refine r_get (Cn := RX12) (Tt := TX12) (N := 42) (n := 2) rfl uw_X12 (Nat.le_of_ble_eq_true rfl) wd_6_188 ha_x5 hv_x5 dX12_feed_106 ?_
  refine r_iconst (v := 1) (by decide) dX12_feed_109 ?_
  refine r_iadd (x := x5) (y := 1) dX12_feed_110 ?_
  obtain ⟨fs_x7, ha_x7, hf⟩ := hf
  generalize hσ6 : hset σ3 v0 (.inl (12, fs_x7.set 2 (aI (x5 + 1)))) = σ6 at hf
  refine r_put (Cn := RX12) (Tt := TX12) (N := 42) (n := 2) (v := aI (x5 + 1)) rfl uw_X12 (Nat.le_of_ble_eq_true rfl) wd_6_188 ha_x7 (ty0 := tyX12) tyX12_ok nmX12 rfl (fo_I (x5 + 1)) dX12_feed_111 ?_
  rw [hσ6]
  refine r_iinc (j := 7) (w := (v6 + 1)) (L' := [(6, aI (v6 + 1)), (7, aI s0), (0, aR (some v0)), (1, aI v1), (2, aI v2), (3, aI v3), (4, aI v4), (5, aI v5)]) rfl (by rfl) rfl (Nat.le_of_ble_eq_true rfl) dX12_feed_114 ?_
  refine r_goto (tgt := 23) (by decide) dX12_feed_117 ?_
  exact r_sub [2, 3, 4, 5, 6, 7, 0] rfl (hX23 _ _ _ _ _ _ _ _ hf)
def F_X12_feed_23 (l : Launch) (G : GG) (d : Nat) (X23 : Nat → Int32 → Int32 → Int32 → Int32 → Int32 → Int32 → Hp → Prop) (v0 : Nat) (v1 : Int32) (v2 : Int32) (v3 : Int32) (v4 : Int32) (v5 : Int32) (v6 : Int32) (σ : Hp) (K : Int32 → Hp → Prop) : Prop :=
  ((20 : Int32) ≤ (v6 : Int32) →
    fI σ v0 12 2 fun x8 =>
    K x8 σ) ∧
  (¬ (20 : Int32) ≤ (v6 : Int32) →
    ((4 : Int32) ≤ (v6 : Int32) →
      ((8 : Int32) ≤ (v6 : Int32) →
        ((12 : Int32) ≤ (v6 : Int32) →
          ((16 : Int32) ≤ (v6 : Int32) →
            F_X12_feed_76 l G d X23 v0 v1 v2 v3 v4 v5 v6 v5 σ K) ∧
          (¬ (16 : Int32) ≤ (v6 : Int32) →
            F_X12_feed_76 l G d X23 v0 v1 v2 v3 v4 v5 v6 v4 σ K)) ∧
        (¬ (12 : Int32) ≤ (v6 : Int32) →
          F_X12_feed_76 l G d X23 v0 v1 v2 v3 v4 v5 v6 v3 σ K)) ∧
      (¬ (8 : Int32) ≤ (v6 : Int32) →
        F_X12_feed_76 l G d X23 v0 v1 v2 v3 v4 v5 v6 v2 σ K)) ∧
    (¬ (4 : Int32) ≤ (v6 : Int32) →
      F_X12_feed_76 l G d X23 v0 v1 v2 v3 v4 v5 v6 v1 σ K))
set_option maxRecDepth 100000 in
set_option maxHeartbeats 4000000 in
theorem b_X12_feed_23 {l : Launch} {G : GG} {d : Nat} {X23 : Nat → Int32 → Int32 → Int32 → Int32 → Int32 → Int32 → Hp → Prop} {v0 : Nat} {v1 : Int32} {v2 : Int32} {v3 : Int32} {v4 : Int32} {v5 : Int32} {v6 : Int32} {σ : Hp} {K : Int32 → Hp → Prop} (hX23 : ∀ v0 v1 v2 v3 v4 v5 v6 σ, X23 v0 v1 v2 v3 v4 v5 v6 σ → Wd l G (d + 1) "CoinsLaidModel" yX12_feed cX12_feed 8 (some FieldType.int) 23 [(0, aR (some v0)), (1, aI v1), (2, aI v2), (3, aI v3), (4, aI v4), (5, aI v5), (6, aI v6)] [] σ 0 0 (xM (QI K))) (hf : F_X12_feed_23 l G d X23 v0 v1 v2 v3 v4 v5 v6 σ K) : Wd l G (d + 1) "CoinsLaidModel" yX12_feed cX12_feed 8 (some FieldType.int) 23 [(0, aR (some v0)), (1, aI v1), (2, aI v2), (3, aI v3), (4, aI v4), (5, aI v5), (6, aI v6)] [] σ 0 0 (xM (QI K)) := by
  unfold F_X12_feed_23 at hf
  refine r_iload (j := 6) rfl dX12_feed_23 ?_
  refine r_bipush (v := 20) (by decide) dX12_feed_25 ?_
  refine r_icmpge (x := v6) (y := 20) (tgt := 120) (by decide) dX12_feed_27 (fun hc => ?_) (fun hc => ?_)
  · replace hf := hf.1 hc
    refine r_aload_n (j := 0) rfl rfl dX12_feed_120 ?_
    obtain ⟨fs_x8, x8, ha_x8, hv_x8, hf⟩ := hf
    refine r_get (Cn := RX12) (Tt := TX12) (N := 42) (n := 2) rfl uw_X12 (Nat.le_of_ble_eq_true rfl) wd_6_188 ha_x8 hv_x8 dX12_feed_121 ?_
    exact r_ireturn rfl dX12_feed_124 rfl ⟨_, rfl, hf⟩
  · replace hf := hf.2 hc
    refine r_iload (j := 6) rfl dX12_feed_30 ?_
    refine r_iconst (v := 4) (by decide) dX12_feed_32 ?_
    refine r_icmpge (x := v6) (y := 4) (tgt := 40) (by decide) dX12_feed_33 (fun hc => ?_) (fun hc => ?_)
    · replace hf := hf.1 hc
      refine r_iload (j := 6) rfl dX12_feed_40 ?_
      refine r_bipush (v := 8) (by decide) dX12_feed_42 ?_
      refine r_icmpge (x := v6) (y := 8) (tgt := 51) (by decide) dX12_feed_44 (fun hc => ?_) (fun hc => ?_)
      · replace hf := hf.1 hc
        refine r_iload (j := 6) rfl dX12_feed_51 ?_
        refine r_bipush (v := 12) (by decide) dX12_feed_53 ?_
        refine r_icmpge (x := v6) (y := 12) (tgt := 62) (by decide) dX12_feed_55 (fun hc => ?_) (fun hc => ?_)
        · replace hf := hf.1 hc
          refine r_iload (j := 6) rfl dX12_feed_62 ?_
          refine r_bipush (v := 16) (by decide) dX12_feed_64 ?_
          refine r_icmpge (x := v6) (y := 16) (tgt := 74) (by decide) dX12_feed_66 (fun hc => ?_) (fun hc => ?_)
          · replace hf := hf.1 hc
            refine r_iload (j := 5) rfl dX12_feed_74 ?_
            exact r_sub [0, 1, 2, 3, 4, 5, 6] rfl (b_X12_feed_76 hX23 hf)
          · replace hf := hf.2 hc
            refine r_iload (j := 4) rfl dX12_feed_69 ?_
            refine r_goto (tgt := 76) (by decide) dX12_feed_71 ?_
            exact r_sub [0, 1, 2, 3, 4, 5, 6] rfl (b_X12_feed_76 hX23 hf)
        · replace hf := hf.2 hc
          refine r_iload_n (j := 3) rfl rfl dX12_feed_58 ?_
          refine r_goto (tgt := 76) (by decide) dX12_feed_59 ?_
          exact r_sub [0, 1, 2, 3, 4, 5, 6] rfl (b_X12_feed_76 hX23 hf)
      · replace hf := hf.2 hc
        refine r_iload_n (j := 2) rfl rfl dX12_feed_47 ?_
        refine r_goto (tgt := 76) (by decide) dX12_feed_48 ?_
        exact r_sub [0, 1, 2, 3, 4, 5, 6] rfl (b_X12_feed_76 hX23 hf)
    · replace hf := hf.2 hc
      refine r_iload_n (j := 1) rfl rfl dX12_feed_36 ?_
      refine r_goto (tgt := 76) (by decide) dX12_feed_37 ?_
      exact r_sub [0, 1, 2, 3, 4, 5, 6] rfl (b_X12_feed_76 hX23 hf)
def Z_X12_feed_23 (l : Launch) (G : GG) (d : Nat) (K : Int32 → Hp → Prop) : Nat → Nat → Int32 → Int32 → Int32 → Int32 → Int32 → Int32 → Hp → Prop
  | 0 => fun _ _ _ _ _ _ _ _ => False
  | n + 1 => fun v0 v1 v2 v3 v4 v5 v6 σ => F_X12_feed_23 l G d (Z_X12_feed_23 l G d K n) v0 v1 v2 v3 v4 v5 v6 σ K
theorem z_X12_feed_23 {l : Launch} {G : GG} {d : Nat} {K : Int32 → Hp → Prop} : ∀ (n : Nat) v0 v1 v2 v3 v4 v5 v6 σ, Z_X12_feed_23 l G d K n v0 v1 v2 v3 v4 v5 v6 σ → Wd l G (d + 1) "CoinsLaidModel" yX12_feed cX12_feed 8 (some FieldType.int) 23 [(0, aR (some v0)), (1, aI v1), (2, aI v2), (3, aI v3), (4, aI v4), (5, aI v5), (6, aI v6)] [] σ 0 0 (xM (QI K)) := by
  intro n
  induction n with
  | zero => intro v0 v1 v2 v3 v4 v5 v6 σ hf; exact hf.elim
  | succ n ih => intro v0 v1 v2 v3 v4 v5 v6 σ hf; exact b_X12_feed_23 ih hf
def F_X12_feed (l : Launch) (G : GG) (d : Nat) (v0 : Nat) (v1 : Int32) (v2 : Int32) (v3 : Int32) (v4 : Int32) (v5 : Int32) (σ : Hp) (K : Int32 → Hp → Prop) : Prop :=
  pF σ v0 12 0 (aI 0) fun σ9 =>
  fI σ9 v0 12 2 fun x11 =>
  (((x11 + 20) : Int32) ≤ (900 : Int32) →
    ∃ n, Z_X12_feed_23 l G d K n v0 v1 v2 v3 v4 v5 0 σ9) ∧
  (¬ ((x11 + 20) : Int32) ≤ (900 : Int32) →
    K (-1) σ9)
set_option maxRecDepth 100000 in
set_option maxHeartbeats 4000000 in
theorem b_X12_feed_0 {l : Launch} {G : GG} {d : Nat} {v0 : Nat} {v1 : Int32} {v2 : Int32} {v3 : Int32} {v4 : Int32} {v5 : Int32} {σ : Hp} {K : Int32 → Hp → Prop} (hf : F_X12_feed l G d v0 v1 v2 v3 v4 v5 σ K) : Wd l G (d + 1) "CoinsLaidModel" yX12_feed cX12_feed 8 (some FieldType.int) 0 [(0, aR (some v0)), (1, aI v1), (2, aI v2), (3, aI v3), (4, aI v4), (5, aI v5)] [] σ 0 0 (xM (QI K)) := by
  unfold F_X12_feed at hf
  refine r_aload_n (j := 0) rfl rfl dX12_feed_0 ?_
  refine r_iconst (v := 0) (by decide) dX12_feed_1 ?_
  obtain ⟨fs_x10, ha_x10, hf⟩ := hf
  generalize hσ9 : hset σ v0 (.inl (12, fs_x10.set 0 (aI 0))) = σ9 at hf
  refine r_put (Cn := RX12) (Tt := TX12) (N := 42) (n := 0) (v := aI 0) rfl uw_X12 (Nat.le_of_ble_eq_true rfl) wd_6_186 ha_x10 (ty0 := tyX12) tyX12_ok nmX12 rfl (fo_I 0) dX12_feed_2 ?_
  rw [hσ9]
  refine r_aload_n (j := 0) rfl rfl dX12_feed_5 ?_
  obtain ⟨fs_x11, x11, ha_x11, hv_x11, hf⟩ := hf
  refine r_get (Cn := RX12) (Tt := TX12) (N := 42) (n := 2) rfl uw_X12 (Nat.le_of_ble_eq_true rfl) wd_6_188 ha_x11 hv_x11 dX12_feed_6 ?_
  refine r_bipush (v := 20) (by decide) dX12_feed_9 ?_
  refine r_iadd (x := x11) (y := 20) dX12_feed_11 ?_
  refine r_sipush (v := 900) (by decide) dX12_feed_12 ?_
  refine r_icmple (x := (x11 + 20)) (y := 900) (tgt := 20) (by decide) dX12_feed_15 (fun hc => ?_) (fun hc => ?_)
  · replace hf := hf.1 hc
    refine r_iconst (v := 0) (by decide) dX12_feed_20 ?_
    refine r_istore (L' := [(6, aI 0), (0, aR (some v0)), (1, aI v1), (2, aI v2), (3, aI v3), (4, aI v4), (5, aI v5)]) rfl (Nat.le_of_ble_eq_true rfl) dX12_feed_21 ?_
    obtain ⟨n, hf⟩ := hf
    exact r_sub [1, 2, 3, 4, 5, 6, 0] rfl (z_X12_feed_23 n _ _ _ _ _ _ _ _ hf)
  · replace hf := hf.2 hc
    refine r_iconst (v := (-1)) (by decide) dX12_feed_18 ?_
    exact r_ireturn rfl dX12_feed_19 rfl ⟨_, rfl, hf⟩
theorem m_X12_feed {l : Launch} {G : GG} {d : Nat} {v0 : Nat} {v1 : Int32} {v2 : Int32} {v3 : Int32} {v4 : Int32} {v5 : Int32} {σ : Hp} {K : Int32 → Hp → Prop} (hr : rv σ v0 12) (hf : F_X12_feed l G d v0 v1 v2 v3 v4 v5 σ K) : C_X12_feed l G (d + 1) v0 v1 v2 v3 v4 v5 σ K := ⟨hr, Sp.of (by decide) (Nat.le_of_ble_eq_true rfl) (b_X12_feed_0 hf) rfl⟩
def F_X12_look_18 (l : Launch) (G : GG) (d : Nat) (s0 : Int32) (σ : Hp) (K : Int32 → Hp → Prop) : Prop :=
  K s0 σ
set_option maxRecDepth 100000 in
set_option maxHeartbeats 4000000 in
theorem b_X12_look_18 {l : Launch} {G : GG} {d : Nat} {s0 : Int32} {σ : Hp} {K : Int32 → Hp → Prop} (hf : F_X12_look_18 l G d s0 σ K) : Wd l G (d + 1) "CoinsLaidModel" yX12_look cX12_look 2 (some FieldType.int) 18 [] [aI s0] σ 0 0 (xM (QI K)) := by
  unfold F_X12_look_18 at hf
  exact r_ireturn rfl dX12_look_18 rfl ⟨_, rfl, hf⟩
def F_X12_look (l : Launch) (G : GG) (d : Nat) (v0 : Nat) (v1 : Int32) (σ : Hp) (K : Int32 → Hp → Prop) : Prop :=
  fI σ v0 12 3 fun x1 =>
  ((x1 : Int32) ≤ (v1 : Int32) →
    F_X12_look_18 l G d (-1) σ K) ∧
  (¬ (x1 : Int32) ≤ (v1 : Int32) →
    fN σ v0 12 1 fun x2 =>
    gI σ x2 v1 fun x3 =>
    F_X12_look_18 l G d x3 σ K)
set_option maxRecDepth 100000 in
set_option maxHeartbeats 4000000 in
theorem b_X12_look_0 {l : Launch} {G : GG} {d : Nat} {v0 : Nat} {v1 : Int32} {σ : Hp} {K : Int32 → Hp → Prop} (hf : F_X12_look l G d v0 v1 σ K) : Wd l G (d + 1) "CoinsLaidModel" yX12_look cX12_look 2 (some FieldType.int) 0 [(0, aR (some v0)), (1, aI v1)] [] σ 0 0 (xM (QI K)) := by
  unfold F_X12_look at hf
  refine r_iload_n (j := 1) rfl rfl dX12_look_0 ?_
  refine r_aload_n (j := 0) rfl rfl dX12_look_1 ?_
  obtain ⟨fs_x1, x1, ha_x1, hv_x1, hf⟩ := hf
  refine r_get (Cn := RX12) (Tt := TX12) (N := 42) (n := 3) rfl uw_X12 (Nat.le_of_ble_eq_true rfl) wd_6_189 ha_x1 hv_x1 dX12_look_2 ?_
  refine r_icmpge (x := v1) (y := x1) (tgt := 17) (by decide) dX12_look_5 (fun hc => ?_) (fun hc => ?_)
  · replace hf := hf.1 hc
    refine r_iconst (v := (-1)) (by decide) dX12_look_17 ?_
    exact r_sub [] rfl (b_X12_look_18 hf)
  · replace hf := hf.2 hc
    refine r_aload_n (j := 0) rfl rfl dX12_look_8 ?_
    obtain ⟨fs_x2, x2, ha_x2, hv_x2, hf⟩ := hf
    refine r_get (Cn := RX12) (Tt := TX12) (N := 42) (n := 1) rfl uw_X12 (Nat.le_of_ble_eq_true rfl) wd_6_187 ha_x2 hv_x2 dX12_look_9 ?_
    refine r_iload_n (j := 1) rfl rfl dX12_look_12 ?_
    obtain ⟨N_x3, f_x3, ha_x3, hi_x3, hf⟩ := hf
    refine r_iald ha_x3 hi_x3 dX12_look_13 ?_
    generalize f_x3 (v1 : Int32).toNatClampNeg = x3 at hf ⊢
    refine r_goto (tgt := 18) (by decide) dX12_look_14 ?_
    exact r_sub [] rfl (b_X12_look_18 hf)
theorem m_X12_look {l : Launch} {G : GG} {d : Nat} {v0 : Nat} {v1 : Int32} {σ : Hp} {K : Int32 → Hp → Prop} (hr : rv σ v0 12) (hf : F_X12_look l G d v0 v1 σ K) : C_X12_look l G (d + 1) v0 v1 σ K := ⟨hr, Sp.of (by decide) (Nat.le_of_ble_eq_true rfl) (b_X12_look_0 hf) rfl⟩
def F_X12_isSmall_17 (l : Launch) (G : GG) (d : Nat) (s0 : Bool) (σ : Hp) (K : Bool → Hp → Prop) : Prop :=
  K s0 σ
set_option maxRecDepth 100000 in
set_option maxHeartbeats 4000000 in
theorem b_X12_isSmall_17 {l : Launch} {G : GG} {d : Nat} {s0 : Bool} {σ : Hp} {K : Bool → Hp → Prop} (hf : F_X12_isSmall_17 l G d s0 σ K) : Wd l G (d + 1) "CoinsLaidModel" yX12_isSmall cX12_isSmall 1 (some FieldType.boolean) 17 [] [aI (bi s0)] σ 0 0 (xM (QZ K)) := by
  unfold F_X12_isSmall_17 at hf
  exact r_zreturn (b := s0) rfl dX12_isSmall_17 rfl ⟨_, rfl, hf⟩
def F_X12_isSmall_16 (l : Launch) (G : GG) (d : Nat) (σ : Hp) (K : Bool → Hp → Prop) : Prop :=
  F_X12_isSmall_17 l G d false σ K
set_option maxRecDepth 100000 in
set_option maxHeartbeats 4000000 in
theorem b_X12_isSmall_16 {l : Launch} {G : GG} {d : Nat} {σ : Hp} {K : Bool → Hp → Prop} (hf : F_X12_isSmall_16 l G d  σ K) : Wd l G (d + 1) "CoinsLaidModel" yX12_isSmall cX12_isSmall 1 (some FieldType.boolean) 16 [] [] σ 0 0 (xM (QZ K)) := by
  unfold F_X12_isSmall_16 at hf
  refine r_iconst (v := 0) (by decide) dX12_isSmall_16 ?_
  exact r_sub [] rfl (b_X12_isSmall_17 hf)
def F_X12_isSmall (l : Launch) (G : GG) (d : Nat) (v0 : Int32) (σ : Hp) (K : Bool → Hp → Prop) : Prop :=
  ((v0 : Int32) < (97 : Int32) →
    F_X12_isSmall_16 l G d σ K) ∧
  (¬ (v0 : Int32) < (97 : Int32) →
    ((122 : Int32) < (v0 : Int32) →
      F_X12_isSmall_16 l G d σ K) ∧
    (¬ (122 : Int32) < (v0 : Int32) →
      F_X12_isSmall_17 l G d true σ K))
set_option maxRecDepth 100000 in
set_option maxHeartbeats 4000000 in
theorem b_X12_isSmall_0 {l : Launch} {G : GG} {d : Nat} {v0 : Int32} {σ : Hp} {K : Bool → Hp → Prop} (hf : F_X12_isSmall l G d v0 σ K) : Wd l G (d + 1) "CoinsLaidModel" yX12_isSmall cX12_isSmall 1 (some FieldType.boolean) 0 [(0, aI v0)] [] σ 0 0 (xM (QZ K)) := by
  unfold F_X12_isSmall at hf
  refine r_iload_n (j := 0) rfl rfl dX12_isSmall_0 ?_
  refine r_bipush (v := 97) (by decide) dX12_isSmall_1 ?_
  refine r_icmplt (x := v0) (y := 97) (tgt := 16) (by decide) dX12_isSmall_3 (fun hc => ?_) (fun hc => ?_)
  · replace hf := hf.1 hc
    exact r_sub [] rfl (b_X12_isSmall_16 hf)
  · replace hf := hf.2 hc
    refine r_iload_n (j := 0) rfl rfl dX12_isSmall_6 ?_
    refine r_bipush (v := 122) (by decide) dX12_isSmall_7 ?_
    refine r_icmpgt (x := v0) (y := 122) (tgt := 16) (by decide) dX12_isSmall_9 (fun hc => ?_) (fun hc => ?_)
    · replace hf := hf.1 hc
      exact r_sub [] rfl (b_X12_isSmall_16 hf)
    · replace hf := hf.2 hc
      refine r_iconst (v := 1) (by decide) dX12_isSmall_12 ?_
      refine r_goto (tgt := 17) (by decide) dX12_isSmall_13 ?_
      exact r_sub [] rfl (b_X12_isSmall_17 hf)
theorem m_X12_isSmall {l : Launch} {G : GG} {d : Nat} {v0 : Int32} {σ : Hp} {K : Bool → Hp → Prop} (hf : F_X12_isSmall l G d v0 σ K) : C_X12_isSmall l G (d + 1) v0 σ K := Sp.of (by decide) (Nat.le_of_ble_eq_true rfl) (b_X12_isSmall_0 hf) rfl
def F_X12_isDigit_17 (l : Launch) (G : GG) (d : Nat) (s0 : Bool) (σ : Hp) (K : Bool → Hp → Prop) : Prop :=
  K s0 σ
set_option maxRecDepth 100000 in
set_option maxHeartbeats 4000000 in
theorem b_X12_isDigit_17 {l : Launch} {G : GG} {d : Nat} {s0 : Bool} {σ : Hp} {K : Bool → Hp → Prop} (hf : F_X12_isDigit_17 l G d s0 σ K) : Wd l G (d + 1) "CoinsLaidModel" yX12_isDigit cX12_isDigit 1 (some FieldType.boolean) 17 [] [aI (bi s0)] σ 0 0 (xM (QZ K)) := by
  unfold F_X12_isDigit_17 at hf
  exact r_zreturn (b := s0) rfl dX12_isDigit_17 rfl ⟨_, rfl, hf⟩
def F_X12_isDigit_16 (l : Launch) (G : GG) (d : Nat) (σ : Hp) (K : Bool → Hp → Prop) : Prop :=
  F_X12_isDigit_17 l G d false σ K
set_option maxRecDepth 100000 in
set_option maxHeartbeats 4000000 in
theorem b_X12_isDigit_16 {l : Launch} {G : GG} {d : Nat} {σ : Hp} {K : Bool → Hp → Prop} (hf : F_X12_isDigit_16 l G d  σ K) : Wd l G (d + 1) "CoinsLaidModel" yX12_isDigit cX12_isDigit 1 (some FieldType.boolean) 16 [] [] σ 0 0 (xM (QZ K)) := by
  unfold F_X12_isDigit_16 at hf
  refine r_iconst (v := 0) (by decide) dX12_isDigit_16 ?_
  exact r_sub [] rfl (b_X12_isDigit_17 hf)
def F_X12_isDigit (l : Launch) (G : GG) (d : Nat) (v0 : Int32) (σ : Hp) (K : Bool → Hp → Prop) : Prop :=
  ((v0 : Int32) < (48 : Int32) →
    F_X12_isDigit_16 l G d σ K) ∧
  (¬ (v0 : Int32) < (48 : Int32) →
    ((57 : Int32) < (v0 : Int32) →
      F_X12_isDigit_16 l G d σ K) ∧
    (¬ (57 : Int32) < (v0 : Int32) →
      F_X12_isDigit_17 l G d true σ K))
set_option maxRecDepth 100000 in
set_option maxHeartbeats 4000000 in
theorem b_X12_isDigit_0 {l : Launch} {G : GG} {d : Nat} {v0 : Int32} {σ : Hp} {K : Bool → Hp → Prop} (hf : F_X12_isDigit l G d v0 σ K) : Wd l G (d + 1) "CoinsLaidModel" yX12_isDigit cX12_isDigit 1 (some FieldType.boolean) 0 [(0, aI v0)] [] σ 0 0 (xM (QZ K)) := by
  unfold F_X12_isDigit at hf
  refine r_iload_n (j := 0) rfl rfl dX12_isDigit_0 ?_
  refine r_bipush (v := 48) (by decide) dX12_isDigit_1 ?_
  refine r_icmplt (x := v0) (y := 48) (tgt := 16) (by decide) dX12_isDigit_3 (fun hc => ?_) (fun hc => ?_)
  · replace hf := hf.1 hc
    exact r_sub [] rfl (b_X12_isDigit_16 hf)
  · replace hf := hf.2 hc
    refine r_iload_n (j := 0) rfl rfl dX12_isDigit_6 ?_
    refine r_bipush (v := 57) (by decide) dX12_isDigit_7 ?_
    refine r_icmpgt (x := v0) (y := 57) (tgt := 16) (by decide) dX12_isDigit_9 (fun hc => ?_) (fun hc => ?_)
    · replace hf := hf.1 hc
      exact r_sub [] rfl (b_X12_isDigit_16 hf)
    · replace hf := hf.2 hc
      refine r_iconst (v := 1) (by decide) dX12_isDigit_12 ?_
      refine r_goto (tgt := 17) (by decide) dX12_isDigit_13 ?_
      exact r_sub [] rfl (b_X12_isDigit_17 hf)
theorem m_X12_isDigit {l : Launch} {G : GG} {d : Nat} {v0 : Int32} {σ : Hp} {K : Bool → Hp → Prop} (hf : F_X12_isDigit l G d v0 σ K) : C_X12_isDigit l G (d + 1) v0 σ K := Sp.of (by decide) (Nat.le_of_ble_eq_true rfl) (b_X12_isDigit_0 hf) rfl
def F_X12_next_247 (l : Launch) (G : GG) (d : Nat) (σ : Hp) (K : Hp → Prop) : Prop :=
  K σ
set_option maxRecDepth 100000 in
set_option maxHeartbeats 4000000 in
theorem b_X12_next_247 {l : Launch} {G : GG} {d : Nat} {σ : Hp} {K : Hp → Prop} (hf : F_X12_next_247 l G d  σ K) : Wd l G (d + 1) "CoinsLaidModel" yX12_next cX12_next 4 none 247 [] [] σ 0 0 (xM (QV K)) := by
  unfold F_X12_next_247 at hf
  exact r_return rfl dX12_next_247 rfl ⟨rfl, hf⟩
def F_X12_next_101 (l : Launch) (G : GG) (d : Nat) (X67 : Nat → Int32 → Hp → Prop) (v0 : Nat) (v1 : Int32) (σ : Hp) (K : Hp → Prop) : Prop :=
  fI σ v0 12 8 fun x1 =>
  pF σ v0 12 8 (aI (x1 + 1)) fun σ2 =>
  X67 v0 (v1 + 1) σ2
set_option maxRecDepth 100000 in
set_option maxHeartbeats 4000000 in
theorem b_X12_next_101 {l : Launch} {G : GG} {d : Nat} {X67 : Nat → Int32 → Hp → Prop} {v0 : Nat} {v1 : Int32} {σ : Hp} {K : Hp → Prop} (hX67 : ∀ v0 v1 σ, X67 v0 v1 σ → Wd l G (d + 1) "CoinsLaidModel" yX12_next cX12_next 4 none 67 [(0, aR (some v0)), (1, aI v1)] [] σ 0 0 (xM (QV K))) (hf : F_X12_next_101 l G d X67 v0 v1 σ K) : Wd l G (d + 1) "CoinsLaidModel" yX12_next cX12_next 4 none 101 [(0, aR (some v0)), (1, aI v1)] [] σ 0 0 (xM (QV K)) := by
  unfold F_X12_next_101 at hf
  refine r_aload_n (j := 0) rfl rfl dX12_next_101 ?_
  refine r_dup rfl dX12_next_102 ?_
  obtain ⟨fs_x1, x1, ha_x1, hv_x1, hf⟩ := hf
  refine r_get (Cn := RX12) (Tt := TX12) (N := 42) (n := 8) rfl uw_X12 (Nat.le_of_ble_eq_true rfl) wd_6_194 ha_x1 hv_x1 dX12_next_103 ?_
  refine r_iconst (v := 1) (by decide) dX12_next_106 ?_
  refine r_iadd (x := x1) (y := 1) dX12_next_107 ?_
  obtain ⟨fs_x3, ha_x3, hf⟩ := hf
  generalize hσ2 : hset σ v0 (.inl (12, fs_x3.set 8 (aI (x1 + 1)))) = σ2 at hf
  refine r_put (Cn := RX12) (Tt := TX12) (N := 42) (n := 8) (v := aI (x1 + 1)) rfl uw_X12 (Nat.le_of_ble_eq_true rfl) wd_6_194 ha_x3 (ty0 := tyX12) tyX12_ok nmX12 rfl (fo_I (x1 + 1)) dX12_next_108 ?_
  rw [hσ2]
  refine r_iinc (j := 1) (w := (v1 + 1)) (L' := [(1, aI (v1 + 1)), (0, aR (some v0))]) rfl (by rfl) rfl (Nat.le_of_ble_eq_true rfl) dX12_next_111 ?_
  refine r_goto (tgt := 67) (by decide) dX12_next_114 ?_
  exact r_sub [1, 0] rfl (hX67 _ _ _ hf)
def F_X12_next_137 (l : Launch) (G : GG) (d : Nat) (s0 : Nat) (s1 : Int32) (σ : Hp) (K : Hp → Prop) : Prop :=
  pF σ s0 12 6 (aI s1) fun σ4 =>
  F_X12_next_247 l G d σ4 K
set_option maxRecDepth 100000 in
set_option maxHeartbeats 4000000 in
theorem b_X12_next_137 {l : Launch} {G : GG} {d : Nat} {s0 : Nat} {s1 : Int32} {σ : Hp} {K : Hp → Prop} (hf : F_X12_next_137 l G d s0 s1 σ K) : Wd l G (d + 1) "CoinsLaidModel" yX12_next cX12_next 4 none 137 [] [aI s1, aR (some s0)] σ 0 0 (xM (QV K)) := by
  unfold F_X12_next_137 at hf
  obtain ⟨fs_x5, ha_x5, hf⟩ := hf
  generalize hσ4 : hset σ s0 (.inl (12, fs_x5.set 6 (aI s1))) = σ4 at hf
  refine r_put (Cn := RX12) (Tt := TX12) (N := 42) (n := 6) (v := aI s1) rfl uw_X12 (Nat.le_of_ble_eq_true rfl) wd_6_192 ha_x5 (ty0 := tyX12) tyX12_ok nmX12 rfl (fo_I s1) dX12_next_137 ?_
  rw [hσ4]
  refine r_goto (tgt := 247) (by decide) dX12_next_140 ?_
  exact r_sub [] rfl (b_X12_next_247 hf)
def F_X12_next_67 (l : Launch) (G : GG) (d : Nat) (X67 : Nat → Int32 → Hp → Prop) (v0 : Nat) (v1 : Int32) (σ : Hp) (K : Hp → Prop) : Prop :=
  C_X12_look l G d v0 v1 σ fun r7 σ6 =>
  C_X12_isSmall l G d r7 σ6 fun r9 σ8 =>
  (r9 = false →
    pF σ8 v0 12 5 (aI v1) fun σ10 =>
    fI σ10 v0 12 8 fun x12 =>
    ((x12 : Int32) ≤ (8 : Int32) →
      F_X12_next_137 l G d v0 2 σ10 K) ∧
    (¬ (x12 : Int32) ≤ (8 : Int32) →
      F_X12_next_137 l G d v0 1 σ10 K)) ∧
  (r9 = true →
    fI σ8 v0 12 8 fun x13 =>
    ((8 : Int32) ≤ (x13 : Int32) →
      F_X12_next_101 l G d X67 v0 v1 σ8 K) ∧
    (¬ (8 : Int32) ≤ (x13 : Int32) →
      fN σ8 v0 12 12 fun x14 =>
      fI σ8 v0 12 8 fun x15 =>
      C_X12_look l G d v0 v1 σ8 fun r17 σ16 =>
      sI σ16 x14 x15 r17 fun σ18 =>
      F_X12_next_101 l G d X67 v0 v1 σ18 K))
set_option maxRecDepth 100000 in
set_option maxHeartbeats 4000000 in
theorem b_X12_next_67 {l : Launch} {G : GG} {d : Nat} {X67 : Nat → Int32 → Hp → Prop} {v0 : Nat} {v1 : Int32} {σ : Hp} {K : Hp → Prop} (hX67 : ∀ v0 v1 σ, X67 v0 v1 σ → Wd l G (d + 1) "CoinsLaidModel" yX12_next cX12_next 4 none 67 [(0, aR (some v0)), (1, aI v1)] [] σ 0 0 (xM (QV K))) (hf : F_X12_next_67 l G d X67 v0 v1 σ K) : Wd l G (d + 1) "CoinsLaidModel" yX12_next cX12_next 4 none 67 [(0, aR (some v0)), (1, aI v1)] [] σ 0 0 (xM (QV K)) := by
  unfold F_X12_next_67 at hf
  refine r_aload_n (j := 0) rfl rfl dX12_next_67 ?_
  refine r_iload_n (j := 1) rfl rfl dX12_next_68 ?_
  try unfold C_X12_look at hf
  obtain ⟨⟨fs_r7, ha_r7⟩, hf⟩ := hf
  refine r_invVI (t := 12) (As := [aI v1]) (dz := d) (mz := 0) (sz := 0) rfl wd_7_100 wd_7_102 wd_p_52 cf_X12_look (Nat.le_refl _) (Nat.zero_le _) (Nat.zero_le _) (cat_ok (Nat.le_of_ble_eq_true rfl)) rfl rfl ha_r7 dX12_next_69 hf (fun r7 σ6 hk => ?_)
  replace hf := hk
  clear hk
  try unfold C_X12_isSmall at hf
  refine r_invSZ (As := [aI r7]) (dz := d) (mz := 0) (sz := 0) rfl wd_7_104 wd_7_105 cf_X12_isSmall (Nat.le_refl _) (Nat.zero_le _) (Nat.zero_le _) (cat_ok (Nat.le_of_ble_eq_true rfl)) dX12_next_72 hf (fun r9 σ8 hk => ?_)
  replace hf := hk
  clear hk
  refine r_ifeqZ (b := r9) (tgt := 117) (by decide) dX12_next_75 (fun hc => ?_) (fun hc => ?_)
  · replace hf := hf.1 hc
    refine r_aload_n (j := 0) rfl rfl dX12_next_117 ?_
    refine r_iload_n (j := 1) rfl rfl dX12_next_118 ?_
    obtain ⟨fs_x11, ha_x11, hf⟩ := hf
    generalize hσ10 : hset σ8 v0 (.inl (12, fs_x11.set 5 (aI v1))) = σ10 at hf
    refine r_put (Cn := RX12) (Tt := TX12) (N := 42) (n := 5) (v := aI v1) rfl uw_X12 (Nat.le_of_ble_eq_true rfl) wd_6_191 ha_x11 (ty0 := tyX12) tyX12_ok nmX12 rfl (fo_I v1) dX12_next_119 ?_
    rw [hσ10]
    refine r_aload_n (j := 0) rfl rfl dX12_next_122 ?_
    refine r_aload_n (j := 0) rfl rfl dX12_next_123 ?_
    obtain ⟨fs_x12, x12, ha_x12, hv_x12, hf⟩ := hf
    refine r_get (Cn := RX12) (Tt := TX12) (N := 42) (n := 8) rfl uw_X12 (Nat.le_of_ble_eq_true rfl) wd_6_194 ha_x12 hv_x12 dX12_next_124 ?_
    refine r_bipush (v := 8) (by decide) dX12_next_127 ?_
    refine r_icmple (x := x12) (y := 8) (tgt := 136) (by decide) dX12_next_129 (fun hc => ?_) (fun hc => ?_)
    · replace hf := hf.1 hc
      refine r_iconst (v := 2) (by decide) dX12_next_136 ?_
      exact r_sub [] rfl (b_X12_next_137 hf)
    · replace hf := hf.2 hc
      refine r_iconst (v := 1) (by decide) dX12_next_132 ?_
      refine r_goto (tgt := 137) (by decide) dX12_next_133 ?_
      exact r_sub [] rfl (b_X12_next_137 hf)
  · replace hf := hf.2 hc
    refine r_aload_n (j := 0) rfl rfl dX12_next_78 ?_
    obtain ⟨fs_x13, x13, ha_x13, hv_x13, hf⟩ := hf
    refine r_get (Cn := RX12) (Tt := TX12) (N := 42) (n := 8) rfl uw_X12 (Nat.le_of_ble_eq_true rfl) wd_6_194 ha_x13 hv_x13 dX12_next_79 ?_
    refine r_bipush (v := 8) (by decide) dX12_next_82 ?_
    refine r_icmpge (x := x13) (y := 8) (tgt := 101) (by decide) dX12_next_84 (fun hc => ?_) (fun hc => ?_)
    · replace hf := hf.1 hc
      exact r_sub [0, 1] rfl (b_X12_next_101 hX67 hf)
    · replace hf := hf.2 hc
      refine r_aload_n (j := 0) rfl rfl dX12_next_87 ?_
      obtain ⟨fs_x14, x14, ha_x14, hv_x14, hf⟩ := hf
      refine r_get (Cn := RX12) (Tt := TX12) (N := 42) (n := 12) rfl uw_X12 (Nat.le_of_ble_eq_true rfl) wd_6_198 ha_x14 hv_x14 dX12_next_88 ?_
      refine r_aload_n (j := 0) rfl rfl dX12_next_91 ?_
      obtain ⟨fs_x15, x15, ha_x15, hv_x15, hf⟩ := hf
      refine r_get (Cn := RX12) (Tt := TX12) (N := 42) (n := 8) rfl uw_X12 (Nat.le_of_ble_eq_true rfl) wd_6_194 ha_x15 hv_x15 dX12_next_92 ?_
      refine r_aload_n (j := 0) rfl rfl dX12_next_95 ?_
      refine r_iload_n (j := 1) rfl rfl dX12_next_96 ?_
      try unfold C_X12_look at hf
      obtain ⟨⟨fs_r17, ha_r17⟩, hf⟩ := hf
      refine r_invVI (t := 12) (As := [aI v1]) (dz := d) (mz := 0) (sz := 0) rfl wd_7_100 wd_7_102 wd_p_52 cf_X12_look (Nat.le_refl _) (Nat.zero_le _) (Nat.zero_le _) (cat_ok (Nat.le_of_ble_eq_true rfl)) rfl rfl ha_r17 dX12_next_97 hf (fun r17 σ16 hk => ?_)
      replace hf := hk
      clear hk
      obtain ⟨N_x19, f_x19, ha_x19, hi_x19, hf⟩ := hf
      generalize hσ18 : hset σ16 x14 (iA N_x19 (up_ f_x19 (x15 : Int32).toNatClampNeg r17)) = σ18 at hf
      refine r_iast (f := f_x19) (x := r17) ha_x19 hi_x19 dX12_next_100 ?_
      refine Eq.mpr (congrArg (fun z => Wd _ _ _ _ _ _ _ _ _ _ _ z _ _ _) hσ18) ?_
      exact r_sub [0, 1] rfl (b_X12_next_101 hX67 hf)
def Z_X12_next_67 (l : Launch) (G : GG) (d : Nat) (K : Hp → Prop) : Nat → Nat → Int32 → Hp → Prop
  | 0 => fun _ _ _ => False
  | n + 1 => fun v0 v1 σ => F_X12_next_67 l G d (Z_X12_next_67 l G d K n) v0 v1 σ K
theorem z_X12_next_67 {l : Launch} {G : GG} {d : Nat} {K : Hp → Prop} : ∀ (n : Nat) v0 v1 σ, Z_X12_next_67 l G d K n v0 v1 σ → Wd l G (d + 1) "CoinsLaidModel" yX12_next cX12_next 4 none 67 [(0, aR (some v0)), (1, aI v1)] [] σ 0 0 (xM (QV K)) := by
  intro n
  induction n with
  | zero => intro v0 v1 σ hf; exact hf.elim
  | succ n ih => intro v0 v1 σ hf; exact b_X12_next_67 ih hf
def F_X12_next_188 (l : Launch) (G : GG) (d : Nat) (X152 : Nat → Int32 → Int32 → Hp → Prop) (v0 : Nat) (v1 : Int32) (v3 : Int32) (σ : Hp) (K : Hp → Prop) : Prop :=
  X152 v0 (v1 + 1) (v3 + 1) σ
set_option maxRecDepth 100000 in
set_option maxHeartbeats 4000000 in
theorem b_X12_next_188 {l : Launch} {G : GG} {d : Nat} {X152 : Nat → Int32 → Int32 → Hp → Prop} {v0 : Nat} {v1 : Int32} {v3 : Int32} {σ : Hp} {K : Hp → Prop} (hX152 : ∀ v0 v1 v3 σ, X152 v0 v1 v3 σ → Wd l G (d + 1) "CoinsLaidModel" yX12_next cX12_next 4 none 152 [(0, aR (some v0)), (1, aI v1), (3, aI v3)] [] σ 0 0 (xM (QV K))) (hf : F_X12_next_188 l G d X152 v0 v1 v3 σ K) : Wd l G (d + 1) "CoinsLaidModel" yX12_next cX12_next 4 none 188 [(0, aR (some v0)), (1, aI v1), (3, aI v3)] [] σ 0 0 (xM (QV K)) := by
  unfold F_X12_next_188 at hf
  refine r_iinc (j := 2) (w := (v3 + 1)) (L' := [(3, aI (v3 + 1)), (0, aR (some v0)), (1, aI v1)]) rfl (by rfl) rfl (Nat.le_of_ble_eq_true rfl) dX12_next_188 ?_
  refine r_iinc (j := 2) (w := (v1 + 1)) (L' := [(1, aI (v1 + 1)), (3, aI (v3 + 1)), (0, aR (some v0))]) rfl (by rfl) rfl (Nat.le_of_ble_eq_true rfl) dX12_next_191 ?_
  refine r_goto (tgt := 152) (by decide) dX12_next_194 ?_
  exact r_sub [2, 0, 1] rfl (hX152 _ _ _ _ hf)
def F_X12_next_213 (l : Launch) (G : GG) (d : Nat) (s0 : Nat) (s1 : Int32) (σ : Hp) (K : Hp → Prop) : Prop :=
  pF σ s0 12 6 (aI s1) fun σ20 =>
  F_X12_next_247 l G d σ20 K
set_option maxRecDepth 100000 in
set_option maxHeartbeats 4000000 in
theorem b_X12_next_213 {l : Launch} {G : GG} {d : Nat} {s0 : Nat} {s1 : Int32} {σ : Hp} {K : Hp → Prop} (hf : F_X12_next_213 l G d s0 s1 σ K) : Wd l G (d + 1) "CoinsLaidModel" yX12_next cX12_next 4 none 213 [] [aI s1, aR (some s0)] σ 0 0 (xM (QV K)) := by
  unfold F_X12_next_213 at hf
  obtain ⟨fs_x21, ha_x21, hf⟩ := hf
  generalize hσ20 : hset σ s0 (.inl (12, fs_x21.set 6 (aI s1))) = σ20 at hf
  refine r_put (Cn := RX12) (Tt := TX12) (N := 42) (n := 6) (v := aI s1) rfl uw_X12 (Nat.le_of_ble_eq_true rfl) wd_6_192 ha_x21 (ty0 := tyX12) tyX12_ok nmX12 rfl (fo_I s1) dX12_next_213 ?_
  rw [hσ20]
  refine r_goto (tgt := 247) (by decide) dX12_next_216 ?_
  exact r_sub [] rfl (b_X12_next_247 hf)
def F_X12_next_152 (l : Launch) (G : GG) (d : Nat) (X152 : Nat → Int32 → Int32 → Hp → Prop) (v0 : Nat) (v1 : Int32) (v3 : Int32) (σ : Hp) (K : Hp → Prop) : Prop :=
  C_X12_look l G d v0 v1 σ fun r23 σ22 =>
  C_X12_isDigit l G d r23 σ22 fun r25 σ24 =>
  (r25 = false →
    pF σ24 v0 12 5 (aI v1) fun σ26 =>
    ((v3 : Int32) ≤ (3 : Int32) →
      F_X12_next_213 l G d v0 3 σ26 K) ∧
    (¬ (v3 : Int32) ≤ (3 : Int32) →
      F_X12_next_213 l G d v0 1 σ26 K)) ∧
  (r25 = true →
    ((3 : Int32) ≤ (v3 : Int32) →
      F_X12_next_188 l G d X152 v0 v1 v3 σ24 K) ∧
    (¬ (3 : Int32) ≤ (v3 : Int32) →
      fI σ24 v0 12 7 fun x28 =>
      C_X12_look l G d v0 v1 σ24 fun r30 σ29 =>
      pF σ29 v0 12 7 (aI (((10 * x28) + r30) - 48)) fun σ31 =>
      F_X12_next_188 l G d X152 v0 v1 v3 σ31 K))
set_option maxRecDepth 100000 in
set_option maxHeartbeats 4000000 in
theorem b_X12_next_152 {l : Launch} {G : GG} {d : Nat} {X152 : Nat → Int32 → Int32 → Hp → Prop} {v0 : Nat} {v1 : Int32} {v3 : Int32} {σ : Hp} {K : Hp → Prop} (hX152 : ∀ v0 v1 v3 σ, X152 v0 v1 v3 σ → Wd l G (d + 1) "CoinsLaidModel" yX12_next cX12_next 4 none 152 [(0, aR (some v0)), (1, aI v1), (3, aI v3)] [] σ 0 0 (xM (QV K))) (hf : F_X12_next_152 l G d X152 v0 v1 v3 σ K) : Wd l G (d + 1) "CoinsLaidModel" yX12_next cX12_next 4 none 152 [(0, aR (some v0)), (1, aI v1), (3, aI v3)] [] σ 0 0 (xM (QV K)) := by
  unfold F_X12_next_152 at hf
  refine r_aload_n (j := 0) rfl rfl dX12_next_152 ?_
  refine r_iload_n (j := 1) rfl rfl dX12_next_153 ?_
  try unfold C_X12_look at hf
  obtain ⟨⟨fs_r23, ha_r23⟩, hf⟩ := hf
  refine r_invVI (t := 12) (As := [aI v1]) (dz := d) (mz := 0) (sz := 0) rfl wd_7_100 wd_7_102 wd_p_52 cf_X12_look (Nat.le_refl _) (Nat.zero_le _) (Nat.zero_le _) (cat_ok (Nat.le_of_ble_eq_true rfl)) rfl rfl ha_r23 dX12_next_154 hf (fun r23 σ22 hk => ?_)
  replace hf := hk
  clear hk
  try unfold C_X12_isDigit at hf
  refine r_invSZ (As := [aI r23]) (dz := d) (mz := 0) (sz := 0) rfl wd_7_107 wd_7_108 cf_X12_isDigit (Nat.le_refl _) (Nat.zero_le _) (Nat.zero_le _) (cat_ok (Nat.le_of_ble_eq_true rfl)) dX12_next_157 hf (fun r25 σ24 hk => ?_)
  replace hf := hk
  clear hk
  refine r_ifeqZ (b := r25) (tgt := 197) (by decide) dX12_next_160 (fun hc => ?_) (fun hc => ?_)
  · replace hf := hf.1 hc
    refine r_aload_n (j := 0) rfl rfl dX12_next_197 ?_
    refine r_iload_n (j := 1) rfl rfl dX12_next_198 ?_
    obtain ⟨fs_x27, ha_x27, hf⟩ := hf
    generalize hσ26 : hset σ24 v0 (.inl (12, fs_x27.set 5 (aI v1))) = σ26 at hf
    refine r_put (Cn := RX12) (Tt := TX12) (N := 42) (n := 5) (v := aI v1) rfl uw_X12 (Nat.le_of_ble_eq_true rfl) wd_6_191 ha_x27 (ty0 := tyX12) tyX12_ok nmX12 rfl (fo_I v1) dX12_next_199 ?_
    rw [hσ26]
    refine r_aload_n (j := 0) rfl rfl dX12_next_202 ?_
    refine r_iload_n (j := 2) rfl rfl dX12_next_203 ?_
    refine r_iconst (v := 3) (by decide) dX12_next_204 ?_
    refine r_icmple (x := v3) (y := 3) (tgt := 212) (by decide) dX12_next_205 (fun hc => ?_) (fun hc => ?_)
    · replace hf := hf.1 hc
      refine r_iconst (v := 3) (by decide) dX12_next_212 ?_
      exact r_sub [] rfl (b_X12_next_213 hf)
    · replace hf := hf.2 hc
      refine r_iconst (v := 1) (by decide) dX12_next_208 ?_
      refine r_goto (tgt := 213) (by decide) dX12_next_209 ?_
      exact r_sub [] rfl (b_X12_next_213 hf)
  · replace hf := hf.2 hc
    refine r_iload_n (j := 2) rfl rfl dX12_next_163 ?_
    refine r_iconst (v := 3) (by decide) dX12_next_164 ?_
    refine r_icmpge (x := v3) (y := 3) (tgt := 188) (by decide) dX12_next_165 (fun hc => ?_) (fun hc => ?_)
    · replace hf := hf.1 hc
      exact r_sub [0, 1, 2] rfl (b_X12_next_188 hX152 hf)
    · replace hf := hf.2 hc
      refine r_aload_n (j := 0) rfl rfl dX12_next_168 ?_
      refine r_bipush (v := 10) (by decide) dX12_next_169 ?_
      refine r_aload_n (j := 0) rfl rfl dX12_next_171 ?_
      obtain ⟨fs_x28, x28, ha_x28, hv_x28, hf⟩ := hf
      refine r_get (Cn := RX12) (Tt := TX12) (N := 42) (n := 7) rfl uw_X12 (Nat.le_of_ble_eq_true rfl) wd_6_193 ha_x28 hv_x28 dX12_next_172 ?_
      refine r_imul (x := 10) (y := x28) dX12_next_175 ?_
      refine r_aload_n (j := 0) rfl rfl dX12_next_176 ?_
      refine r_iload_n (j := 1) rfl rfl dX12_next_177 ?_
      try unfold C_X12_look at hf
      obtain ⟨⟨fs_r30, ha_r30⟩, hf⟩ := hf
      refine r_invVI (t := 12) (As := [aI v1]) (dz := d) (mz := 0) (sz := 0) rfl wd_7_100 wd_7_102 wd_p_52 cf_X12_look (Nat.le_refl _) (Nat.zero_le _) (Nat.zero_le _) (cat_ok (Nat.le_of_ble_eq_true rfl)) rfl rfl ha_r30 dX12_next_178 hf (fun r30 σ29 hk => ?_)
      replace hf := hk
      clear hk
      refine r_iadd (x := (10 * x28)) (y := r30) dX12_next_181 ?_
      refine r_bipush (v := 48) (by decide) dX12_next_182 ?_
      refine r_isub (x := ((10 * x28) + r30)) (y := 48) dX12_next_184 ?_
      obtain ⟨fs_x32, ha_x32, hf⟩ := hf
      generalize hσ31 : hset σ29 v0 (.inl (12, fs_x32.set 7 (aI (((10 * x28) + r30) - 48)))) = σ31 at hf
      refine r_put (Cn := RX12) (Tt := TX12) (N := 42) (n := 7) (v := aI (((10 * x28) + r30) - 48)) rfl uw_X12 (Nat.le_of_ble_eq_true rfl) wd_6_193 ha_x32 (ty0 := tyX12) tyX12_ok nmX12 rfl (fo_I (((10 * x28) + r30) - 48)) dX12_next_185 ?_
      rw [hσ31]
      exact r_sub [0, 1, 2] rfl (b_X12_next_188 hX152 hf)
def Z_X12_next_152 (l : Launch) (G : GG) (d : Nat) (K : Hp → Prop) : Nat → Nat → Int32 → Int32 → Hp → Prop
  | 0 => fun _ _ _ _ => False
  | n + 1 => fun v0 v1 v3 σ => F_X12_next_152 l G d (Z_X12_next_152 l G d K n) v0 v1 v3 σ K
theorem z_X12_next_152 {l : Launch} {G : GG} {d : Nat} {K : Hp → Prop} : ∀ (n : Nat) v0 v1 v3 σ, Z_X12_next_152 l G d K n v0 v1 v3 σ → Wd l G (d + 1) "CoinsLaidModel" yX12_next cX12_next 4 none 152 [(0, aR (some v0)), (1, aI v1), (3, aI v3)] [] σ 0 0 (xM (QV K)) := by
  intro n
  induction n with
  | zero => intro v0 v1 v3 σ hf; exact hf.elim
  | succ n ih => intro v0 v1 v3 σ hf; exact b_X12_next_152 ih hf
def F_X12_next_244 (l : Launch) (G : GG) (d : Nat) (s0 : Nat) (s1 : Int32) (σ : Hp) (K : Hp → Prop) : Prop :=
  pF σ s0 12 6 (aI s1) fun σ33 =>
  F_X12_next_247 l G d σ33 K
set_option maxRecDepth 100000 in
set_option maxHeartbeats 4000000 in
theorem b_X12_next_244 {l : Launch} {G : GG} {d : Nat} {s0 : Nat} {s1 : Int32} {σ : Hp} {K : Hp → Prop} (hf : F_X12_next_244 l G d s0 s1 σ K) : Wd l G (d + 1) "CoinsLaidModel" yX12_next cX12_next 4 none 244 [] [aI s1, aR (some s0)] σ 0 0 (xM (QV K)) := by
  unfold F_X12_next_244 at hf
  obtain ⟨fs_x34, ha_x34, hf⟩ := hf
  generalize hσ33 : hset σ s0 (.inl (12, fs_x34.set 6 (aI s1))) = σ33 at hf
  refine r_put (Cn := RX12) (Tt := TX12) (N := 42) (n := 6) (v := aI s1) rfl uw_X12 (Nat.le_of_ble_eq_true rfl) wd_6_192 ha_x34 (ty0 := tyX12) tyX12_ok nmX12 rfl (fo_I s1) dX12_next_244 ?_
  rw [hσ33]
  exact r_sub [] rfl (b_X12_next_247 hf)
def F_X12_next_239 (l : Launch) (G : GG) (d : Nat) (v2 : Int32) (s0 : Nat) (σ : Hp) (K : Hp → Prop) : Prop :=
  F_X12_next_244 l G d s0 v2 σ K
set_option maxRecDepth 100000 in
set_option maxHeartbeats 4000000 in
theorem b_X12_next_239 {l : Launch} {G : GG} {d : Nat} {v2 : Int32} {s0 : Nat} {σ : Hp} {K : Hp → Prop} (hf : F_X12_next_239 l G d v2 s0 σ K) : Wd l G (d + 1) "CoinsLaidModel" yX12_next cX12_next 4 none 239 [(2, aI v2)] [aR (some s0)] σ 0 0 (xM (QV K)) := by
  unfold F_X12_next_239 at hf
  refine r_iload_n (j := 0) rfl rfl dX12_next_239 ?_
  refine r_goto (tgt := 244) (by decide) dX12_next_240 ?_
  exact r_sub [] rfl (b_X12_next_244 hf)
def F_X12_next_5 (l : Launch) (G : GG) (d : Nat) (X5 : Nat → Int32 → Hp → Prop) (v0 : Nat) (v1 : Int32) (σ : Hp) (K : Hp → Prop) : Prop :=
  C_X12_look l G d v0 v1 σ fun r36 σ35 =>
  (¬ (r36 : Int32) = (32 : Int32) →
    pF σ35 v0 12 4 (aI v1) fun σ37 =>
    C_X12_look l G d v0 v1 σ37 fun r40 σ39 =>
    pF σ39 v0 12 8 (aI 0) fun σ41 =>
    pF σ41 v0 12 7 (aI 0) fun σ43 =>
    (¬ (r40 : Int32) = ((-1) : Int32) →
      C_X12_isSmall l G d r40 σ43 fun r46 σ45 =>
      (r46 = false →
        C_X12_isDigit l G d r40 σ45 fun r48 σ47 =>
        (r48 = false →
          pF σ47 v0 12 5 (aI (v1 + 1)) fun σ49 =>
          ((r40 : Int32) = (59 : Int32) →
            F_X12_next_239 l G d r40 v0 σ49 K) ∧
          (¬ (r40 : Int32) = (59 : Int32) →
            (¬ (r40 : Int32) = (44 : Int32) →
              F_X12_next_244 l G d v0 1 σ49 K) ∧
            ((r40 : Int32) = (44 : Int32) →
              F_X12_next_239 l G d r40 v0 σ49 K))) ∧
        (r48 = true →
          ∃ n, Z_X12_next_152 l G d K n v0 v1 0 σ47)) ∧
      (r46 = true →
        ∃ n, Z_X12_next_67 l G d K n v0 v1 σ45)) ∧
    ((r40 : Int32) = ((-1) : Int32) →
      pF σ43 v0 12 6 (aI 0) fun σ51 =>
      pF σ51 v0 12 5 (aI v1) fun σ53 =>
      F_X12_next_247 l G d σ53 K)) ∧
  ((r36 : Int32) = (32 : Int32) →
    X5 v0 (v1 + 1) σ35)
set_option maxRecDepth 100000 in
set_option maxHeartbeats 4000000 in
theorem b_X12_next_5 {l : Launch} {G : GG} {d : Nat} {X5 : Nat → Int32 → Hp → Prop} {v0 : Nat} {v1 : Int32} {σ : Hp} {K : Hp → Prop} (hX5 : ∀ v0 v1 σ, X5 v0 v1 σ → Wd l G (d + 1) "CoinsLaidModel" yX12_next cX12_next 4 none 5 [(0, aR (some v0)), (1, aI v1)] [] σ 0 0 (xM (QV K))) (hf : F_X12_next_5 l G d X5 v0 v1 σ K) : Wd l G (d + 1) "CoinsLaidModel" yX12_next cX12_next 4 none 5 [(0, aR (some v0)), (1, aI v1)] [] σ 0 0 (xM (QV K)) := by
  unfold F_X12_next_5 at hf
  refine r_aload_n (j := 0) rfl rfl dX12_next_5 ?_
  refine r_iload_n (j := 1) rfl rfl dX12_next_6 ?_
  try unfold C_X12_look at hf
  obtain ⟨⟨fs_r36, ha_r36⟩, hf⟩ := hf
  refine r_invVI (t := 12) (As := [aI v1]) (dz := d) (mz := 0) (sz := 0) rfl wd_7_100 wd_7_102 wd_p_52 cf_X12_look (Nat.le_refl _) (Nat.zero_le _) (Nat.zero_le _) (cat_ok (Nat.le_of_ble_eq_true rfl)) rfl rfl ha_r36 dX12_next_7 hf (fun r36 σ35 hk => ?_)
  replace hf := hk
  clear hk
  refine r_bipush (v := 32) (by decide) dX12_next_10 ?_
  refine r_icmpne (x := r36) (y := 32) (tgt := 21) (by decide) dX12_next_12 (fun hc => ?_) (fun hc => ?_)
  · replace hf := hf.1 hc
    refine r_aload_n (j := 0) rfl rfl dX12_next_21 ?_
    refine r_iload_n (j := 1) rfl rfl dX12_next_22 ?_
    obtain ⟨fs_x38, ha_x38, hf⟩ := hf
    generalize hσ37 : hset σ35 v0 (.inl (12, fs_x38.set 4 (aI v1))) = σ37 at hf
    refine r_put (Cn := RX12) (Tt := TX12) (N := 42) (n := 4) (v := aI v1) rfl uw_X12 (Nat.le_of_ble_eq_true rfl) wd_6_190 ha_x38 (ty0 := tyX12) tyX12_ok nmX12 rfl (fo_I v1) dX12_next_23 ?_
    rw [hσ37]
    refine r_aload_n (j := 0) rfl rfl dX12_next_26 ?_
    refine r_iload_n (j := 1) rfl rfl dX12_next_27 ?_
    try unfold C_X12_look at hf
    obtain ⟨⟨fs_r40, ha_r40⟩, hf⟩ := hf
    refine r_invVI (t := 12) (As := [aI v1]) (dz := d) (mz := 0) (sz := 0) rfl wd_7_100 wd_7_102 wd_p_52 cf_X12_look (Nat.le_refl _) (Nat.zero_le _) (Nat.zero_le _) (cat_ok (Nat.le_of_ble_eq_true rfl)) rfl rfl ha_r40 dX12_next_28 hf (fun r40 σ39 hk => ?_)
    replace hf := hk
    clear hk
    refine r_istore_n (L' := [(2, aI r40), (0, aR (some v0)), (1, aI v1)]) rfl rfl (Nat.le_of_ble_eq_true rfl) dX12_next_31 ?_
    refine r_aload_n (j := 1) rfl rfl dX12_next_32 ?_
    refine r_iconst (v := 0) (by decide) dX12_next_33 ?_
    obtain ⟨fs_x42, ha_x42, hf⟩ := hf
    generalize hσ41 : hset σ39 v0 (.inl (12, fs_x42.set 8 (aI 0))) = σ41 at hf
    refine r_put (Cn := RX12) (Tt := TX12) (N := 42) (n := 8) (v := aI 0) rfl uw_X12 (Nat.le_of_ble_eq_true rfl) wd_6_194 ha_x42 (ty0 := tyX12) tyX12_ok nmX12 rfl (fo_I 0) dX12_next_34 ?_
    rw [hσ41]
    refine r_aload_n (j := 1) rfl rfl dX12_next_37 ?_
    refine r_iconst (v := 0) (by decide) dX12_next_38 ?_
    obtain ⟨fs_x44, ha_x44, hf⟩ := hf
    generalize hσ43 : hset σ41 v0 (.inl (12, fs_x44.set 7 (aI 0))) = σ43 at hf
    refine r_put (Cn := RX12) (Tt := TX12) (N := 42) (n := 7) (v := aI 0) rfl uw_X12 (Nat.le_of_ble_eq_true rfl) wd_6_193 ha_x44 (ty0 := tyX12) tyX12_ok nmX12 rfl (fo_I 0) dX12_next_39 ?_
    rw [hσ43]
    refine r_iload_n (j := 0) rfl rfl dX12_next_42 ?_
    refine r_iconst (v := (-1)) (by decide) dX12_next_43 ?_
    refine r_icmpne (x := r40) (y := (-1)) (tgt := 60) (by decide) dX12_next_44 (fun hc => ?_) (fun hc => ?_)
    · replace hf := hf.1 hc
      refine r_iload_n (j := 0) rfl rfl dX12_next_60 ?_
      try unfold C_X12_isSmall at hf
      refine r_invSZ (As := [aI r40]) (dz := d) (mz := 0) (sz := 0) rfl wd_7_104 wd_7_105 cf_X12_isSmall (Nat.le_refl _) (Nat.zero_le _) (Nat.zero_le _) (cat_ok (Nat.le_of_ble_eq_true rfl)) dX12_next_61 hf (fun r46 σ45 hk => ?_)
      replace hf := hk
      clear hk
      refine r_ifeqZ (b := r46) (tgt := 143) (by decide) dX12_next_64 (fun hc => ?_) (fun hc => ?_)
      · replace hf := hf.1 hc
        refine r_iload_n (j := 0) rfl rfl dX12_next_143 ?_
        try unfold C_X12_isDigit at hf
        refine r_invSZ (As := [aI r40]) (dz := d) (mz := 0) (sz := 0) rfl wd_7_107 wd_7_108 cf_X12_isDigit (Nat.le_refl _) (Nat.zero_le _) (Nat.zero_le _) (cat_ok (Nat.le_of_ble_eq_true rfl)) dX12_next_144 hf (fun r48 σ47 hk => ?_)
        replace hf := hk
        clear hk
        refine r_ifeqZ (b := r48) (tgt := 219) (by decide) dX12_next_147 (fun hc => ?_) (fun hc => ?_)
        · replace hf := hf.1 hc
          refine r_aload_n (j := 1) rfl rfl dX12_next_219 ?_
          refine r_iload_n (j := 2) rfl rfl dX12_next_220 ?_
          refine r_iconst (v := 1) (by decide) dX12_next_221 ?_
          refine r_iadd (x := v1) (y := 1) dX12_next_222 ?_
          obtain ⟨fs_x50, ha_x50, hf⟩ := hf
          generalize hσ49 : hset σ47 v0 (.inl (12, fs_x50.set 5 (aI (v1 + 1)))) = σ49 at hf
          refine r_put (Cn := RX12) (Tt := TX12) (N := 42) (n := 5) (v := aI (v1 + 1)) rfl uw_X12 (Nat.le_of_ble_eq_true rfl) wd_6_191 ha_x50 (ty0 := tyX12) tyX12_ok nmX12 rfl (fo_I (v1 + 1)) dX12_next_223 ?_
          rw [hσ49]
          refine r_aload_n (j := 1) rfl rfl dX12_next_226 ?_
          refine r_iload_n (j := 0) rfl rfl dX12_next_227 ?_
          refine r_bipush (v := 59) (by decide) dX12_next_228 ?_
          refine r_icmpeq (x := r40) (y := 59) (tgt := 239) (by decide) dX12_next_230 (fun hc => ?_) (fun hc => ?_)
          · replace hf := hf.1 hc
            exact r_sub [0] rfl (b_X12_next_239 hf)
          · replace hf := hf.2 hc
            refine r_iload_n (j := 0) rfl rfl dX12_next_233 ?_
            refine r_bipush (v := 44) (by decide) dX12_next_234 ?_
            refine r_icmpne (x := r40) (y := 44) (tgt := 243) (by decide) dX12_next_236 (fun hc => ?_) (fun hc => ?_)
            · replace hf := hf.1 hc
              refine r_iconst (v := 1) (by decide) dX12_next_243 ?_
              exact r_sub [] rfl (b_X12_next_244 hf)
            · replace hf := hf.2 hc
              exact r_sub [0] rfl (b_X12_next_239 hf)
        · replace hf := hf.2 hc
          refine r_iconst (v := 0) (by decide) dX12_next_150 ?_
          refine r_istore_n (L' := [(3, aI 0), (2, aI r40), (0, aR (some v0)), (1, aI v1)]) rfl rfl (Nat.le_of_ble_eq_true rfl) dX12_next_151 ?_
          obtain ⟨n, hf⟩ := hf
          exact r_sub [2, 3, 0] rfl (z_X12_next_152 n _ _ _ _ hf)
      · replace hf := hf.2 hc
        obtain ⟨n, hf⟩ := hf
        exact r_sub [1, 2] rfl (z_X12_next_67 n _ _ _ hf)
    · replace hf := hf.2 hc
      refine r_aload_n (j := 1) rfl rfl dX12_next_47 ?_
      refine r_iconst (v := 0) (by decide) dX12_next_48 ?_
      obtain ⟨fs_x52, ha_x52, hf⟩ := hf
      generalize hσ51 : hset σ43 v0 (.inl (12, fs_x52.set 6 (aI 0))) = σ51 at hf
      refine r_put (Cn := RX12) (Tt := TX12) (N := 42) (n := 6) (v := aI 0) rfl uw_X12 (Nat.le_of_ble_eq_true rfl) wd_6_192 ha_x52 (ty0 := tyX12) tyX12_ok nmX12 rfl (fo_I 0) dX12_next_49 ?_
      rw [hσ51]
      refine r_aload_n (j := 1) rfl rfl dX12_next_52 ?_
      refine r_iload_n (j := 2) rfl rfl dX12_next_53 ?_
      obtain ⟨fs_x54, ha_x54, hf⟩ := hf
      generalize hσ53 : hset σ51 v0 (.inl (12, fs_x54.set 5 (aI v1))) = σ53 at hf
      refine r_put (Cn := RX12) (Tt := TX12) (N := 42) (n := 5) (v := aI v1) rfl uw_X12 (Nat.le_of_ble_eq_true rfl) wd_6_191 ha_x54 (ty0 := tyX12) tyX12_ok nmX12 rfl (fo_I v1) dX12_next_54 ?_
      rw [hσ53]
      refine r_goto (tgt := 247) (by decide) dX12_next_57 ?_
      exact r_sub [] rfl (b_X12_next_247 hf)
  · replace hf := hf.2 hc
    refine r_iinc (j := 1) (w := (v1 + 1)) (L' := [(1, aI (v1 + 1)), (0, aR (some v0))]) rfl (by rfl) rfl (Nat.le_of_ble_eq_true rfl) dX12_next_15 ?_
    refine r_goto (tgt := 5) (by decide) dX12_next_18 ?_
    exact r_sub [1, 0] rfl (hX5 _ _ _ hf)
def Z_X12_next_5 (l : Launch) (G : GG) (d : Nat) (K : Hp → Prop) : Nat → Nat → Int32 → Hp → Prop
  | 0 => fun _ _ _ => False
  | n + 1 => fun v0 v1 σ => F_X12_next_5 l G d (Z_X12_next_5 l G d K n) v0 v1 σ K
theorem z_X12_next_5 {l : Launch} {G : GG} {d : Nat} {K : Hp → Prop} : ∀ (n : Nat) v0 v1 σ, Z_X12_next_5 l G d K n v0 v1 σ → Wd l G (d + 1) "CoinsLaidModel" yX12_next cX12_next 4 none 5 [(0, aR (some v0)), (1, aI v1)] [] σ 0 0 (xM (QV K)) := by
  intro n
  induction n with
  | zero => intro v0 v1 σ hf; exact hf.elim
  | succ n ih => intro v0 v1 σ hf; exact b_X12_next_5 ih hf
def F_X12_next (l : Launch) (G : GG) (d : Nat) (v0 : Nat) (σ : Hp) (K : Hp → Prop) : Prop :=
  fI σ v0 12 5 fun x55 =>
  ∃ n, Z_X12_next_5 l G d K n v0 x55 σ
set_option maxRecDepth 100000 in
set_option maxHeartbeats 4000000 in
theorem b_X12_next_0 {l : Launch} {G : GG} {d : Nat} {v0 : Nat} {σ : Hp} {K : Hp → Prop} (hf : F_X12_next l G d v0 σ K) : Wd l G (d + 1) "CoinsLaidModel" yX12_next cX12_next 4 none 0 [(0, aR (some v0))] [] σ 0 0 (xM (QV K)) := by
  unfold F_X12_next at hf
  refine r_aload_n (j := 0) rfl rfl dX12_next_0 ?_
  obtain ⟨fs_x55, x55, ha_x55, hv_x55, hf⟩ := hf
  refine r_get (Cn := RX12) (Tt := TX12) (N := 42) (n := 5) rfl uw_X12 (Nat.le_of_ble_eq_true rfl) wd_6_191 ha_x55 hv_x55 dX12_next_1 ?_
  refine r_istore_n (L' := [(1, aI x55), (0, aR (some v0))]) rfl rfl (Nat.le_of_ble_eq_true rfl) dX12_next_4 ?_
  obtain ⟨n, hf⟩ := hf
  exact r_sub [1, 0] rfl (z_X12_next_5 n _ _ _ hf)
theorem m_X12_next {l : Launch} {G : GG} {d : Nat} {v0 : Nat} {σ : Hp} {K : Hp → Prop} (hr : rv σ v0 12) (hf : F_X12_next l G d v0 σ K) : C_X12_next l G (d + 1) v0 σ K := ⟨hr, Sp.of (by decide) (Nat.le_of_ble_eq_true rfl) (b_X12_next_0 hf) rfl⟩
def F_X12_wrong (l : Launch) (G : GG) (d : Nat) (v0 : Nat) (v1 : Int32) (v2 : Int32) (σ : Hp) (K : Hp → Prop) : Prop :=
  fZ σ v0 12 13 fun x1 =>
  (x1 = false →
    pF σ v0 12 13 (aI (bi true)) fun σ2 =>
    pF σ2 v0 12 9 (aI v1) fun σ4 =>
    pF σ4 v0 12 10 (aI v2) fun σ6 =>
    K σ6) ∧
  (x1 = true →
    K σ)
set_option maxRecDepth 100000 in
set_option maxHeartbeats 4000000 in
theorem b_X12_wrong_0 {l : Launch} {G : GG} {d : Nat} {v0 : Nat} {v1 : Int32} {v2 : Int32} {σ : Hp} {K : Hp → Prop} (hf : F_X12_wrong l G d v0 v1 v2 σ K) : Wd l G (d + 1) "CoinsLaidModel" yX12_wrong cX12_wrong 3 none 0 [(0, aR (some v0)), (1, aI v1), (2, aI v2)] [] σ 0 0 (xM (QV K)) := by
  unfold F_X12_wrong at hf
  refine r_aload_n (j := 0) rfl rfl dX12_wrong_0 ?_
  obtain ⟨fs_x1, x1, ha_x1, hv_x1, hf⟩ := hf
  refine r_get (Cn := RX12) (Tt := TX12) (N := 42) (n := 13) rfl uw_X12 (Nat.le_of_ble_eq_true rfl) wd_6_199 ha_x1 hv_x1 dX12_wrong_1 ?_
  refine r_ifeqZ (b := x1) (tgt := 8) (by decide) dX12_wrong_4 (fun hc => ?_) (fun hc => ?_)
  · replace hf := hf.1 hc
    refine r_aload_n (j := 0) rfl rfl dX12_wrong_8 ?_
    refine r_iconst (v := 1) (by decide) dX12_wrong_9 ?_
    obtain ⟨fs_x3, ha_x3, hf⟩ := hf
    generalize hσ2 : hset σ v0 (.inl (12, fs_x3.set 13 (aI (bi true)))) = σ2 at hf
    refine r_put (Cn := RX12) (Tt := TX12) (N := 42) (n := 13) (v := aI (bi true)) rfl uw_X12 (Nat.le_of_ble_eq_true rfl) wd_6_199 ha_x3 (ty0 := tyX12) tyX12_ok nmX12 rfl (fo_Z true) dX12_wrong_10 ?_
    rw [hσ2]
    refine r_aload_n (j := 0) rfl rfl dX12_wrong_13 ?_
    refine r_iload_n (j := 1) rfl rfl dX12_wrong_14 ?_
    obtain ⟨fs_x5, ha_x5, hf⟩ := hf
    generalize hσ4 : hset σ2 v0 (.inl (12, fs_x5.set 9 (aI v1))) = σ4 at hf
    refine r_put (Cn := RX12) (Tt := TX12) (N := 42) (n := 9) (v := aI v1) rfl uw_X12 (Nat.le_of_ble_eq_true rfl) wd_6_195 ha_x5 (ty0 := tyX12) tyX12_ok nmX12 rfl (fo_I v1) dX12_wrong_15 ?_
    rw [hσ4]
    refine r_aload_n (j := 0) rfl rfl dX12_wrong_18 ?_
    refine r_iload_n (j := 2) rfl rfl dX12_wrong_19 ?_
    obtain ⟨fs_x7, ha_x7, hf⟩ := hf
    generalize hσ6 : hset σ4 v0 (.inl (12, fs_x7.set 10 (aI v2))) = σ6 at hf
    refine r_put (Cn := RX12) (Tt := TX12) (N := 42) (n := 10) (v := aI v2) rfl uw_X12 (Nat.le_of_ble_eq_true rfl) wd_6_196 ha_x7 (ty0 := tyX12) tyX12_ok nmX12 rfl (fo_I v2) dX12_wrong_20 ?_
    rw [hσ6]
    exact r_return rfl dX12_wrong_23 rfl ⟨rfl, hf⟩
  · replace hf := hf.2 hc
    exact r_return rfl dX12_wrong_7 rfl ⟨rfl, hf⟩
theorem m_X12_wrong {l : Launch} {G : GG} {d : Nat} {v0 : Nat} {v1 : Int32} {v2 : Int32} {σ : Hp} {K : Hp → Prop} (hr : rv σ v0 12) (hf : F_X12_wrong l G d v0 v1 v2 σ K) : C_X12_wrong l G (d + 1) v0 v1 v2 σ K := ⟨hr, Sp.of (by decide) (Nat.le_of_ble_eq_true rfl) (b_X12_wrong_0 hf) rfl⟩
def F_X12_isWord_26 (l : Launch) (G : GG) (d : Nat) (σ : Hp) (K : Bool → Hp → Prop) : Prop :=
  K false σ
set_option maxRecDepth 100000 in
set_option maxHeartbeats 4000000 in
theorem b_X12_isWord_26 {l : Launch} {G : GG} {d : Nat} {σ : Hp} {K : Bool → Hp → Prop} (hf : F_X12_isWord_26 l G d  σ K) : Wd l G (d + 1) "CoinsLaidModel" yX12_isWord cX12_isWord 4 (some FieldType.boolean) 26 [] [] σ 0 0 (xM (QZ K)) := by
  unfold F_X12_isWord_26 at hf
  refine r_iconst (v := 0) (by decide) dX12_isWord_26 ?_
  exact r_zreturn (b := false) rfl dX12_isWord_27 rfl ⟨_, rfl, hf⟩
def F_X12_isWord_63 (l : Launch) (G : GG) (d : Nat) (X32 : Nat → Nat → Bool → Int32 → Hp → Prop) (v0 : Nat) (v1 : Nat) (v3 : Int32) (s0 : Bool) (σ : Hp) (K : Bool → Hp → Prop) : Prop :=
  X32 v0 v1 s0 (v3 + 1) σ
set_option maxRecDepth 100000 in
set_option maxHeartbeats 4000000 in
theorem b_X12_isWord_63 {l : Launch} {G : GG} {d : Nat} {X32 : Nat → Nat → Bool → Int32 → Hp → Prop} {v0 : Nat} {v1 : Nat} {v3 : Int32} {s0 : Bool} {σ : Hp} {K : Bool → Hp → Prop} (hX32 : ∀ v0 v1 v2 v3 σ, X32 v0 v1 v2 v3 σ → Wd l G (d + 1) "CoinsLaidModel" yX12_isWord cX12_isWord 4 (some FieldType.boolean) 32 [(0, aR (some v0)), (1, aR (some v1)), (2, aI (bi v2)), (3, aI v3)] [] σ 0 0 (xM (QZ K))) (hf : F_X12_isWord_63 l G d X32 v0 v1 v3 s0 σ K) : Wd l G (d + 1) "CoinsLaidModel" yX12_isWord cX12_isWord 4 (some FieldType.boolean) 63 [(0, aR (some v0)), (1, aR (some v1)), (3, aI v3)] [aI (bi s0)] σ 0 0 (xM (QZ K)) := by
  unfold F_X12_isWord_63 at hf
  refine r_istore_n (L' := [(2, aI (bi s0)), (0, aR (some v0)), (1, aR (some v1)), (3, aI v3)]) rfl rfl (Nat.le_of_ble_eq_true rfl) dX12_isWord_63 ?_
  refine r_iinc (j := 3) (w := (v3 + 1)) (L' := [(3, aI (v3 + 1)), (2, aI (bi s0)), (0, aR (some v0)), (1, aR (some v1))]) rfl (by rfl) rfl (Nat.le_of_ble_eq_true rfl) dX12_isWord_64 ?_
  refine r_goto (tgt := 32) (by decide) dX12_isWord_67 ?_
  exact r_sub [2, 3, 1, 0] rfl (hX32 _ _ _ _ _ hf)
def F_X12_isWord_62 (l : Launch) (G : GG) (d : Nat) (X32 : Nat → Nat → Bool → Int32 → Hp → Prop) (v0 : Nat) (v1 : Nat) (v3 : Int32) (σ : Hp) (K : Bool → Hp → Prop) : Prop :=
  F_X12_isWord_63 l G d X32 v0 v1 v3 false σ K
set_option maxRecDepth 100000 in
set_option maxHeartbeats 4000000 in
theorem b_X12_isWord_62 {l : Launch} {G : GG} {d : Nat} {X32 : Nat → Nat → Bool → Int32 → Hp → Prop} {v0 : Nat} {v1 : Nat} {v3 : Int32} {σ : Hp} {K : Bool → Hp → Prop} (hX32 : ∀ v0 v1 v2 v3 σ, X32 v0 v1 v2 v3 σ → Wd l G (d + 1) "CoinsLaidModel" yX12_isWord cX12_isWord 4 (some FieldType.boolean) 32 [(0, aR (some v0)), (1, aR (some v1)), (2, aI (bi v2)), (3, aI v3)] [] σ 0 0 (xM (QZ K))) (hf : F_X12_isWord_62 l G d X32 v0 v1 v3 σ K) : Wd l G (d + 1) "CoinsLaidModel" yX12_isWord cX12_isWord 4 (some FieldType.boolean) 62 [(0, aR (some v0)), (1, aR (some v1)), (3, aI v3)] [] σ 0 0 (xM (QZ K)) := by
  unfold F_X12_isWord_62 at hf
  refine r_iconst (v := 0) (by decide) dX12_isWord_62 ?_
  exact r_sub [0, 1, 2] rfl (b_X12_isWord_63 hX32 hf)
def F_X12_isWord_32 (l : Launch) (G : GG) (d : Nat) (X32 : Nat → Nat → Bool → Int32 → Hp → Prop) (v0 : Nat) (v1 : Nat) (v2 : Bool) (v3 : Int32) (σ : Hp) (K : Bool → Hp → Prop) : Prop :=
  fI σ v0 12 8 fun x1 =>
  ((x1 : Int32) ≤ (v3 : Int32) →
    K v2 σ) ∧
  (¬ (x1 : Int32) ≤ (v3 : Int32) →
    (v2 = false →
      F_X12_isWord_62 l G d X32 v0 v1 v3 σ K) ∧
    (v2 = true →
      fN σ v0 12 12 fun x2 =>
      gI σ x2 v3 fun x3 =>
      C_J0_charAt_5068e l G d v1 v3 σ fun r5 σ4 =>
      (¬ (x3 : Int32) = (r5 : Int32) →
        F_X12_isWord_62 l G d X32 v0 v1 v3 σ4 K) ∧
      ((x3 : Int32) = (r5 : Int32) →
        F_X12_isWord_63 l G d X32 v0 v1 v3 true σ4 K)))
set_option maxRecDepth 100000 in
set_option maxHeartbeats 4000000 in
theorem b_X12_isWord_32 {l : Launch} {G : GG} {d : Nat} {X32 : Nat → Nat → Bool → Int32 → Hp → Prop} {v0 : Nat} {v1 : Nat} {v2 : Bool} {v3 : Int32} {σ : Hp} {K : Bool → Hp → Prop} (hX32 : ∀ v0 v1 v2 v3 σ, X32 v0 v1 v2 v3 σ → Wd l G (d + 1) "CoinsLaidModel" yX12_isWord cX12_isWord 4 (some FieldType.boolean) 32 [(0, aR (some v0)), (1, aR (some v1)), (2, aI (bi v2)), (3, aI v3)] [] σ 0 0 (xM (QZ K))) (hf : F_X12_isWord_32 l G d X32 v0 v1 v2 v3 σ K) : Wd l G (d + 1) "CoinsLaidModel" yX12_isWord cX12_isWord 4 (some FieldType.boolean) 32 [(0, aR (some v0)), (1, aR (some v1)), (2, aI (bi v2)), (3, aI v3)] [] σ 0 0 (xM (QZ K)) := by
  unfold F_X12_isWord_32 at hf
  refine r_iload_n (j := 3) rfl rfl dX12_isWord_32 ?_
  refine r_aload_n (j := 0) rfl rfl dX12_isWord_33 ?_
  obtain ⟨fs_x1, x1, ha_x1, hv_x1, hf⟩ := hf
  refine r_get (Cn := RX12) (Tt := TX12) (N := 42) (n := 8) rfl uw_X12 (Nat.le_of_ble_eq_true rfl) wd_6_194 ha_x1 hv_x1 dX12_isWord_34 ?_
  refine r_icmpge (x := v3) (y := x1) (tgt := 70) (by decide) dX12_isWord_37 (fun hc => ?_) (fun hc => ?_)
  · replace hf := hf.1 hc
    refine r_iload_n (j := 2) rfl rfl dX12_isWord_70 ?_
    exact r_zreturn (b := v2) rfl dX12_isWord_71 rfl ⟨_, rfl, hf⟩
  · replace hf := hf.2 hc
    refine r_iload_n (j := 2) rfl rfl dX12_isWord_40 ?_
    refine r_ifeqZ (b := v2) (tgt := 62) (by decide) dX12_isWord_41 (fun hc => ?_) (fun hc => ?_)
    · replace hf := hf.1 hc
      exact r_sub [0, 1, 3] rfl (b_X12_isWord_62 hX32 hf)
    · replace hf := hf.2 hc
      refine r_aload_n (j := 0) rfl rfl dX12_isWord_44 ?_
      obtain ⟨fs_x2, x2, ha_x2, hv_x2, hf⟩ := hf
      refine r_get (Cn := RX12) (Tt := TX12) (N := 42) (n := 12) rfl uw_X12 (Nat.le_of_ble_eq_true rfl) wd_6_198 ha_x2 hv_x2 dX12_isWord_45 ?_
      refine r_iload_n (j := 3) rfl rfl dX12_isWord_48 ?_
      obtain ⟨N_x3, f_x3, ha_x3, hi_x3, hf⟩ := hf
      refine r_iald ha_x3 hi_x3 dX12_isWord_49 ?_
      generalize f_x3 (v3 : Int32).toNatClampNeg = x3 at hf ⊢
      refine r_aload_n (j := 1) rfl rfl dX12_isWord_50 ?_
      refine r_iload_n (j := 3) rfl rfl dX12_isWord_51 ?_
      try unfold C_J0_charAt_5068e at hf
      obtain ⟨⟨j6, q_j6, ha_j6, hj_j6⟩, hf⟩ := hf
      refine r_invKI (j := j6) (As := [aI v3]) (dz := d) (mz := 0) (sz := 0) rfl wd_7_124 wd_2_165 wd_2_166 cf_J0_charAt_5068e (Nat.le_refl _) (Nat.zero_le _) (Nat.zero_le _) (cat_ok (Nat.le_of_ble_eq_true rfl)) rfl ha_j6 hj_j6 dX12_isWord_52 hf (fun r5 σ4 hk => ?_)
      replace hf := hk
      clear hk
      refine r_icmpne (x := x3) (y := r5) (tgt := 62) (by decide) dX12_isWord_55 (fun hc => ?_) (fun hc => ?_)
      · replace hf := hf.1 hc
        exact r_sub [0, 1, 3] rfl (b_X12_isWord_62 hX32 hf)
      · replace hf := hf.2 hc
        refine r_iconst (v := 1) (by decide) dX12_isWord_58 ?_
        refine r_goto (tgt := 63) (by decide) dX12_isWord_59 ?_
        exact r_sub [0, 1, 3] rfl (b_X12_isWord_63 hX32 hf)
def Z_X12_isWord_32 (l : Launch) (G : GG) (d : Nat) (K : Bool → Hp → Prop) : Nat → Nat → Nat → Bool → Int32 → Hp → Prop
  | 0 => fun _ _ _ _ _ => False
  | n + 1 => fun v0 v1 v2 v3 σ => F_X12_isWord_32 l G d (Z_X12_isWord_32 l G d K n) v0 v1 v2 v3 σ K
theorem z_X12_isWord_32 {l : Launch} {G : GG} {d : Nat} {K : Bool → Hp → Prop} : ∀ (n : Nat) v0 v1 v2 v3 σ, Z_X12_isWord_32 l G d K n v0 v1 v2 v3 σ → Wd l G (d + 1) "CoinsLaidModel" yX12_isWord cX12_isWord 4 (some FieldType.boolean) 32 [(0, aR (some v0)), (1, aR (some v1)), (2, aI (bi v2)), (3, aI v3)] [] σ 0 0 (xM (QZ K)) := by
  intro n
  induction n with
  | zero => intro v0 v1 v2 v3 σ hf; exact hf.elim
  | succ n ih => intro v0 v1 v2 v3 σ hf; exact b_X12_isWord_32 ih hf
def F_X12_isWord (l : Launch) (G : GG) (d : Nat) (v0 : Nat) (v1 : Nat) (σ : Hp) (K : Bool → Hp → Prop) : Prop :=
  fZ σ v0 12 13 fun x7 =>
  (x7 = true →
    F_X12_isWord_26 l G d σ K) ∧
  (x7 = false →
    fI σ v0 12 6 fun x8 =>
    (¬ (x8 : Int32) = (2 : Int32) →
      F_X12_isWord_26 l G d σ K) ∧
    ((x8 : Int32) = (2 : Int32) →
      fI σ v0 12 8 fun x9 =>
      C_J0_length_8abf5 l G d v1 σ fun r11 σ10 =>
      ((x9 : Int32) = (r11 : Int32) →
        ∃ n, Z_X12_isWord_32 l G d K n v0 v1 true 0 σ10) ∧
      (¬ (x9 : Int32) = (r11 : Int32) →
        F_X12_isWord_26 l G d σ10 K)))
set_option maxRecDepth 100000 in
set_option maxHeartbeats 4000000 in
theorem b_X12_isWord_0 {l : Launch} {G : GG} {d : Nat} {v0 : Nat} {v1 : Nat} {σ : Hp} {K : Bool → Hp → Prop} (hf : F_X12_isWord l G d v0 v1 σ K) : Wd l G (d + 1) "CoinsLaidModel" yX12_isWord cX12_isWord 4 (some FieldType.boolean) 0 [(0, aR (some v0)), (1, aR (some v1))] [] σ 0 0 (xM (QZ K)) := by
  unfold F_X12_isWord at hf
  refine r_aload_n (j := 0) rfl rfl dX12_isWord_0 ?_
  obtain ⟨fs_x7, x7, ha_x7, hv_x7, hf⟩ := hf
  refine r_get (Cn := RX12) (Tt := TX12) (N := 42) (n := 13) rfl uw_X12 (Nat.le_of_ble_eq_true rfl) wd_6_199 ha_x7 hv_x7 dX12_isWord_1 ?_
  refine r_ifneZ (b := x7) (tgt := 26) (by decide) dX12_isWord_4 (fun hc => ?_) (fun hc => ?_)
  · replace hf := hf.1 hc
    exact r_sub [] rfl (b_X12_isWord_26 hf)
  · replace hf := hf.2 hc
    refine r_aload_n (j := 0) rfl rfl dX12_isWord_7 ?_
    obtain ⟨fs_x8, x8, ha_x8, hv_x8, hf⟩ := hf
    refine r_get (Cn := RX12) (Tt := TX12) (N := 42) (n := 6) rfl uw_X12 (Nat.le_of_ble_eq_true rfl) wd_6_192 ha_x8 hv_x8 dX12_isWord_8 ?_
    refine r_iconst (v := 2) (by decide) dX12_isWord_11 ?_
    refine r_icmpne (x := x8) (y := 2) (tgt := 26) (by decide) dX12_isWord_12 (fun hc => ?_) (fun hc => ?_)
    · replace hf := hf.1 hc
      exact r_sub [] rfl (b_X12_isWord_26 hf)
    · replace hf := hf.2 hc
      refine r_aload_n (j := 0) rfl rfl dX12_isWord_15 ?_
      obtain ⟨fs_x9, x9, ha_x9, hv_x9, hf⟩ := hf
      refine r_get (Cn := RX12) (Tt := TX12) (N := 42) (n := 8) rfl uw_X12 (Nat.le_of_ble_eq_true rfl) wd_6_194 ha_x9 hv_x9 dX12_isWord_16 ?_
      refine r_aload_n (j := 1) rfl rfl dX12_isWord_19 ?_
      try unfold C_J0_length_8abf5 at hf
      obtain ⟨⟨j12, q_j12, ha_j12, hj_j12⟩, hf⟩ := hf
      refine r_invKI (j := j12) (As := []) (dz := d) (mz := 0) (sz := 0) rfl wd_7_123 wd_2_155 wd_2_156 cf_J0_length_8abf5 (Nat.le_refl _) (Nat.zero_le _) (Nat.zero_le _) (cat_ok (Nat.le_of_ble_eq_true rfl)) rfl ha_j12 hj_j12 dX12_isWord_20 hf (fun r11 σ10 hk => ?_)
      replace hf := hk
      clear hk
      refine r_icmpeq (x := x9) (y := r11) (tgt := 28) (by decide) dX12_isWord_23 (fun hc => ?_) (fun hc => ?_)
      · replace hf := hf.1 hc
        refine r_iconst (v := 1) (by decide) dX12_isWord_28 ?_
        refine r_istore_n (L' := [(2, aI 1), (0, aR (some v0)), (1, aR (some v1))]) rfl rfl (Nat.le_of_ble_eq_true rfl) dX12_isWord_29 ?_
        refine r_iconst (v := 0) (by decide) dX12_isWord_30 ?_
        refine r_istore_n (L' := [(3, aI 0), (2, aI 1), (0, aR (some v0)), (1, aR (some v1))]) rfl rfl (Nat.le_of_ble_eq_true rfl) dX12_isWord_31 ?_
        obtain ⟨n, hf⟩ := hf
        exact r_sub [2, 3, 1, 0] rfl (z_X12_isWord_32 n _ _ _ _ _ hf)
      · replace hf := hf.2 hc
        exact r_sub [] rfl (b_X12_isWord_26 hf)
theorem m_X12_isWord {l : Launch} {G : GG} {d : Nat} {v0 : Nat} {v1 : Nat} {σ : Hp} {K : Bool → Hp → Prop} (hr : rv σ v0 12) (hf : F_X12_isWord l G d v0 v1 σ K) : C_X12_isWord l G (d + 1) v0 v1 σ K := ⟨hr, Sp.of (by decide) (Nat.le_of_ble_eq_true rfl) (b_X12_isWord_0 hf) rfl⟩
def F_X12_takesWord (l : Launch) (G : GG) (d : Nat) (v0 : Nat) (v1 : Nat) (σ : Hp) (K : Bool → Hp → Prop) : Prop :=
  C_X12_isWord l G d v0 v1 σ fun r2 σ1 =>
  (r2 = true →
    C_X12_next l G d v0 σ1 fun σ3 =>
    K true σ3) ∧
  (r2 = false →
    K false σ1)
set_option maxRecDepth 100000 in
set_option maxHeartbeats 4000000 in
theorem b_X12_takesWord_0 {l : Launch} {G : GG} {d : Nat} {v0 : Nat} {v1 : Nat} {σ : Hp} {K : Bool → Hp → Prop} (hf : F_X12_takesWord l G d v0 v1 σ K) : Wd l G (d + 1) "CoinsLaidModel" yX12_takesWord cX12_takesWord 2 (some FieldType.boolean) 0 [(0, aR (some v0)), (1, aR (some v1))] [] σ 0 0 (xM (QZ K)) := by
  unfold F_X12_takesWord at hf
  refine r_aload_n (j := 0) rfl rfl dX12_takesWord_0 ?_
  refine r_aload_n (j := 1) rfl rfl dX12_takesWord_1 ?_
  try unfold C_X12_isWord at hf
  obtain ⟨⟨fs_r2, ha_r2⟩, hf⟩ := hf
  refine r_invVZ (t := 12) (As := [aR (some v1)]) (dz := d) (mz := 0) (sz := 0) rfl wd_7_119 wd_7_121 wd_p_55 cf_X12_isWord (Nat.le_refl _) (Nat.zero_le _) (Nat.zero_le _) (cat_ok (Nat.le_of_ble_eq_true rfl)) rfl rfl ha_r2 dX12_takesWord_2 hf (fun r2 σ1 hk => ?_)
  replace hf := hk
  clear hk
  refine r_ifneZ (b := r2) (tgt := 10) (by decide) dX12_takesWord_5 (fun hc => ?_) (fun hc => ?_)
  · replace hf := hf.1 hc
    refine r_aload_n (j := 0) rfl rfl dX12_takesWord_10 ?_
    try unfold C_X12_next at hf
    obtain ⟨⟨fs_r4, ha_r4⟩, hf⟩ := hf
    refine r_invVU (t := 12) (As := []) (dz := d) (mz := 0) (sz := 0) rfl wd_7_96 wd_7_98 wd_p_51 cf_X12_next (Nat.le_refl _) (Nat.zero_le _) (Nat.zero_le _) (cat_ok (Nat.le_of_ble_eq_true rfl)) rfl rfl ha_r4 dX12_takesWord_11 hf (fun σ3 hk => ?_)
    replace hf := hk
    clear hk
    refine r_iconst (v := 1) (by decide) dX12_takesWord_14 ?_
    exact r_zreturn (b := true) rfl dX12_takesWord_15 rfl ⟨_, rfl, hf⟩
  · replace hf := hf.2 hc
    refine r_iconst (v := 0) (by decide) dX12_takesWord_8 ?_
    exact r_zreturn (b := false) rfl dX12_takesWord_9 rfl ⟨_, rfl, hf⟩
theorem m_X12_takesWord {l : Launch} {G : GG} {d : Nat} {v0 : Nat} {v1 : Nat} {σ : Hp} {K : Bool → Hp → Prop} (hr : rv σ v0 12) (hf : F_X12_takesWord l G d v0 v1 σ K) : C_X12_takesWord l G (d + 1) v0 v1 σ K := ⟨hr, Sp.of (by decide) (Nat.le_of_ble_eq_true rfl) (b_X12_takesWord_0 hf) rfl⟩
def F_X12_must_24 (l : Launch) (G : GG) (d : Nat) (σ : Hp) (K : Hp → Prop) : Prop :=
  K σ
set_option maxRecDepth 100000 in
set_option maxHeartbeats 4000000 in
theorem b_X12_must_24 {l : Launch} {G : GG} {d : Nat} {σ : Hp} {K : Hp → Prop} (hf : F_X12_must_24 l G d  σ K) : Wd l G (d + 1) "CoinsLaidModel" yX12_must cX12_must 2 none 24 [] [] σ 0 0 (xM (QV K)) := by
  unfold F_X12_must_24 at hf
  exact r_return rfl dX12_must_24 rfl ⟨rfl, hf⟩
def F_X12_must (l : Launch) (G : GG) (d : Nat) (v0 : Nat) (v1 : Nat) (σ : Hp) (K : Hp → Prop) : Prop :=
  fZ σ v0 12 13 fun x1 =>
  (x1 = true →
    F_X12_must_24 l G d σ K) ∧
  (x1 = false →
    C_X12_takesWord l G d v0 v1 σ fun r3 σ2 =>
    (r3 = true →
      F_X12_must_24 l G d σ2 K) ∧
    (r3 = false →
      fI σ2 v0 12 4 fun x4 =>
      C_X12_wrong l G d v0 1 x4 σ2 fun σ5 =>
      F_X12_must_24 l G d σ5 K))
set_option maxRecDepth 100000 in
set_option maxHeartbeats 4000000 in
theorem b_X12_must_0 {l : Launch} {G : GG} {d : Nat} {v0 : Nat} {v1 : Nat} {σ : Hp} {K : Hp → Prop} (hf : F_X12_must l G d v0 v1 σ K) : Wd l G (d + 1) "CoinsLaidModel" yX12_must cX12_must 2 none 0 [(0, aR (some v0)), (1, aR (some v1))] [] σ 0 0 (xM (QV K)) := by
  unfold F_X12_must at hf
  refine r_aload_n (j := 0) rfl rfl dX12_must_0 ?_
  obtain ⟨fs_x1, x1, ha_x1, hv_x1, hf⟩ := hf
  refine r_get (Cn := RX12) (Tt := TX12) (N := 42) (n := 13) rfl uw_X12 (Nat.le_of_ble_eq_true rfl) wd_6_199 ha_x1 hv_x1 dX12_must_1 ?_
  refine r_ifneZ (b := x1) (tgt := 24) (by decide) dX12_must_4 (fun hc => ?_) (fun hc => ?_)
  · replace hf := hf.1 hc
    exact r_sub [] rfl (b_X12_must_24 hf)
  · replace hf := hf.2 hc
    refine r_aload_n (j := 0) rfl rfl dX12_must_7 ?_
    refine r_aload_n (j := 1) rfl rfl dX12_must_8 ?_
    try unfold C_X12_takesWord at hf
    obtain ⟨⟨fs_r3, ha_r3⟩, hf⟩ := hf
    refine r_invVZ (t := 12) (As := [aR (some v1)]) (dz := d) (mz := 0) (sz := 0) rfl wd_7_134 wd_7_136 wd_p_58 cf_X12_takesWord (Nat.le_refl _) (Nat.zero_le _) (Nat.zero_le _) (cat_ok (Nat.le_of_ble_eq_true rfl)) rfl rfl ha_r3 dX12_must_9 hf (fun r3 σ2 hk => ?_)
    replace hf := hk
    clear hk
    refine r_ifneZ (b := r3) (tgt := 24) (by decide) dX12_must_12 (fun hc => ?_) (fun hc => ?_)
    · replace hf := hf.1 hc
      exact r_sub [] rfl (b_X12_must_24 hf)
    · replace hf := hf.2 hc
      refine r_aload_n (j := 0) rfl rfl dX12_must_15 ?_
      refine r_iconst (v := 1) (by decide) dX12_must_16 ?_
      refine r_aload_n (j := 0) rfl rfl dX12_must_17 ?_
      obtain ⟨fs_x4, x4, ha_x4, hv_x4, hf⟩ := hf
      refine r_get (Cn := RX12) (Tt := TX12) (N := 42) (n := 4) rfl uw_X12 (Nat.le_of_ble_eq_true rfl) wd_6_190 ha_x4 hv_x4 dX12_must_18 ?_
      try unfold C_X12_wrong at hf
      obtain ⟨⟨fs_r6, ha_r6⟩, hf⟩ := hf
      refine r_invVU (t := 12) (As := [aI 1, aI x4]) (dz := d) (mz := 0) (sz := 0) rfl wd_7_125 wd_7_127 wd_p_56 cf_X12_wrong (Nat.le_refl _) (Nat.zero_le _) (Nat.zero_le _) (cat_ok (Nat.le_of_ble_eq_true rfl)) rfl rfl ha_r6 dX12_must_21 hf (fun σ5 hk => ?_)
      replace hf := hk
      clear hk
      exact r_sub [] rfl (b_X12_must_24 hf)
theorem m_X12_must {l : Launch} {G : GG} {d : Nat} {v0 : Nat} {v1 : Nat} {σ : Hp} {K : Hp → Prop} (hr : rv σ v0 12) (hf : F_X12_must l G d v0 v1 σ K) : C_X12_must l G (d + 1) v0 v1 σ K := ⟨hr, Sp.of (by decide) (Nat.le_of_ble_eq_true rfl) (b_X12_must_0 hf) rfl⟩
def F_X12_mustName_72 (l : Launch) (G : GG) (d : Nat) (σ : Hp) (K : Hp → Prop) : Prop :=
  K σ
set_option maxRecDepth 100000 in
set_option maxHeartbeats 4000000 in
theorem b_X12_mustName_72 {l : Launch} {G : GG} {d : Nat} {σ : Hp} {K : Hp → Prop} (hf : F_X12_mustName_72 l G d  σ K) : Wd l G (d + 1) "CoinsLaidModel" yX12_mustName cX12_mustName 2 none 72 [] [] σ 0 0 (xM (QV K)) := by
  unfold F_X12_mustName_72 at hf
  exact r_return rfl dX12_mustName_72 rfl ⟨rfl, hf⟩
def F_X12_mustName_63 (l : Launch) (G : GG) (d : Nat) (v0 : Nat) (σ : Hp) (K : Hp → Prop) : Prop :=
  fI σ v0 12 4 fun x1 =>
  C_X12_wrong l G d v0 1 x1 σ fun σ2 =>
  F_X12_mustName_72 l G d σ2 K
set_option maxRecDepth 100000 in
set_option maxHeartbeats 4000000 in
theorem b_X12_mustName_63 {l : Launch} {G : GG} {d : Nat} {v0 : Nat} {σ : Hp} {K : Hp → Prop} (hf : F_X12_mustName_63 l G d v0 σ K) : Wd l G (d + 1) "CoinsLaidModel" yX12_mustName cX12_mustName 2 none 63 [(0, aR (some v0))] [] σ 0 0 (xM (QV K)) := by
  unfold F_X12_mustName_63 at hf
  refine r_aload_n (j := 0) rfl rfl dX12_mustName_63 ?_
  refine r_iconst (v := 1) (by decide) dX12_mustName_64 ?_
  refine r_aload_n (j := 0) rfl rfl dX12_mustName_65 ?_
  obtain ⟨fs_x1, x1, ha_x1, hv_x1, hf⟩ := hf
  refine r_get (Cn := RX12) (Tt := TX12) (N := 42) (n := 4) rfl uw_X12 (Nat.le_of_ble_eq_true rfl) wd_6_190 ha_x1 hv_x1 dX12_mustName_66 ?_
  try unfold C_X12_wrong at hf
  obtain ⟨⟨fs_r3, ha_r3⟩, hf⟩ := hf
  refine r_invVU (t := 12) (As := [aI 1, aI x1]) (dz := d) (mz := 0) (sz := 0) rfl wd_7_125 wd_7_127 wd_p_56 cf_X12_wrong (Nat.le_refl _) (Nat.zero_le _) (Nat.zero_le _) (cat_ok (Nat.le_of_ble_eq_true rfl)) rfl rfl ha_r3 dX12_mustName_69 hf (fun σ2 hk => ?_)
  replace hf := hk
  clear hk
  exact r_sub [] rfl (b_X12_mustName_72 hf)
def F_X12_mustName_50 (l : Launch) (G : GG) (d : Nat) (v0 : Nat) (s0 : Bool) (σ : Hp) (K : Hp → Prop) : Prop :=
  fI σ v0 12 6 fun x4 =>
  (¬ (x4 : Int32) = (2 : Int32) →
    F_X12_mustName_63 l G d v0 σ K) ∧
  ((x4 : Int32) = (2 : Int32) →
    (s0 = false →
      F_X12_mustName_72 l G d σ K) ∧
    (s0 = true →
      F_X12_mustName_63 l G d v0 σ K))
set_option maxRecDepth 100000 in
set_option maxHeartbeats 4000000 in
theorem b_X12_mustName_50 {l : Launch} {G : GG} {d : Nat} {v0 : Nat} {s0 : Bool} {σ : Hp} {K : Hp → Prop} (hf : F_X12_mustName_50 l G d v0 s0 σ K) : Wd l G (d + 1) "CoinsLaidModel" yX12_mustName cX12_mustName 2 none 50 [(0, aR (some v0))] [aI (bi s0)] σ 0 0 (xM (QV K)) := by
  unfold F_X12_mustName_50 at hf
  refine r_istore_n (L' := [(1, aI (bi s0)), (0, aR (some v0))]) rfl rfl (Nat.le_of_ble_eq_true rfl) dX12_mustName_50 ?_
  refine r_aload_n (j := 1) rfl rfl dX12_mustName_51 ?_
  obtain ⟨fs_x4, x4, ha_x4, hv_x4, hf⟩ := hf
  refine r_get (Cn := RX12) (Tt := TX12) (N := 42) (n := 6) rfl uw_X12 (Nat.le_of_ble_eq_true rfl) wd_6_192 ha_x4 hv_x4 dX12_mustName_52 ?_
  refine r_iconst (v := 2) (by decide) dX12_mustName_55 ?_
  refine r_icmpne (x := x4) (y := 2) (tgt := 63) (by decide) dX12_mustName_56 (fun hc => ?_) (fun hc => ?_)
  · replace hf := hf.1 hc
    exact r_sub [1] rfl (b_X12_mustName_63 hf)
  · replace hf := hf.2 hc
    refine r_iload_n (j := 0) rfl rfl dX12_mustName_59 ?_
    refine r_ifeqZ (b := s0) (tgt := 72) (by decide) dX12_mustName_60 (fun hc => ?_) (fun hc => ?_)
    · replace hf := hf.1 hc
      exact r_sub [] rfl (b_X12_mustName_72 hf)
    · replace hf := hf.2 hc
      exact r_sub [1] rfl (b_X12_mustName_63 hf)
def F_X12_mustName_45 (l : Launch) (G : GG) (d : Nat) (v0 : Nat) (σ : Hp) (K : Hp → Prop) : Prop :=
  F_X12_mustName_50 l G d v0 true σ K
set_option maxRecDepth 100000 in
set_option maxHeartbeats 4000000 in
theorem b_X12_mustName_45 {l : Launch} {G : GG} {d : Nat} {v0 : Nat} {σ : Hp} {K : Hp → Prop} (hf : F_X12_mustName_45 l G d v0 σ K) : Wd l G (d + 1) "CoinsLaidModel" yX12_mustName cX12_mustName 2 none 45 [(0, aR (some v0))] [] σ 0 0 (xM (QV K)) := by
  unfold F_X12_mustName_45 at hf
  refine r_iconst (v := 1) (by decide) dX12_mustName_45 ?_
  refine r_goto (tgt := 50) (by decide) dX12_mustName_46 ?_
  exact r_sub [0] rfl (b_X12_mustName_50 hf)
def F_X12_mustName (l : Launch) (G : GG) (d : Nat) (v0 : Nat) (σ : Hp) (K : Hp → Prop) : Prop :=
  C_X12_isWord l G d v0 (gK G 21) σ fun r6 σ5 =>
  (r6 = true →
    F_X12_mustName_45 l G d v0 σ5 K) ∧
  (r6 = false →
    C_X12_isWord l G d v0 (gK G 25) σ5 fun r8 σ7 =>
    (r8 = true →
      F_X12_mustName_45 l G d v0 σ7 K) ∧
    (r8 = false →
      C_X12_isWord l G d v0 (gK G 26) σ7 fun r10 σ9 =>
      (r10 = true →
        F_X12_mustName_45 l G d v0 σ9 K) ∧
      (r10 = false →
        C_X12_isWord l G d v0 (gK G 27) σ9 fun r12 σ11 =>
        (r12 = true →
          F_X12_mustName_45 l G d v0 σ11 K) ∧
        (r12 = false →
          C_X12_isWord l G d v0 (gK G 28) σ11 fun r14 σ13 =>
          (r14 = false →
            F_X12_mustName_50 l G d v0 false σ13 K) ∧
          (r14 = true →
            F_X12_mustName_45 l G d v0 σ13 K)))))
set_option maxRecDepth 100000 in
set_option maxHeartbeats 4000000 in
theorem b_X12_mustName_0 {l : Launch} {G : GG} {d : Nat} {v0 : Nat} {σ : Hp} {K : Hp → Prop} (hf : F_X12_mustName l G d v0 σ K) : Wd l G (d + 1) "CoinsLaidModel" yX12_mustName cX12_mustName 2 none 0 [(0, aR (some v0))] [] σ 0 0 (xM (QV K)) := by
  unfold F_X12_mustName at hf
  refine r_aload_n (j := 0) rfl rfl dX12_mustName_0 ?_
  refine r_ldcS (j := 21) rfl dX12_mustName_1 ?_
  try unfold C_X12_isWord at hf
  obtain ⟨⟨fs_r6, ha_r6⟩, hf⟩ := hf
  refine r_invVZ (t := 12) (As := [aR (some (gK G 21))]) (dz := d) (mz := 0) (sz := 0) rfl wd_7_119 wd_7_121 wd_p_55 cf_X12_isWord (Nat.le_refl _) (Nat.zero_le _) (Nat.zero_le _) (cat_ok (Nat.le_of_ble_eq_true rfl)) rfl rfl ha_r6 dX12_mustName_3 hf (fun r6 σ5 hk => ?_)
  replace hf := hk
  clear hk
  refine r_ifneZ (b := r6) (tgt := 45) (by decide) dX12_mustName_6 (fun hc => ?_) (fun hc => ?_)
  · replace hf := hf.1 hc
    exact r_sub [0] rfl (b_X12_mustName_45 hf)
  · replace hf := hf.2 hc
    refine r_aload_n (j := 0) rfl rfl dX12_mustName_9 ?_
    refine r_ldcS (j := 25) rfl dX12_mustName_10 ?_
    try unfold C_X12_isWord at hf
    obtain ⟨⟨fs_r8, ha_r8⟩, hf⟩ := hf
    refine r_invVZ (t := 12) (As := [aR (some (gK G 25))]) (dz := d) (mz := 0) (sz := 0) rfl wd_7_119 wd_7_121 wd_p_55 cf_X12_isWord (Nat.le_refl _) (Nat.zero_le _) (Nat.zero_le _) (cat_ok (Nat.le_of_ble_eq_true rfl)) rfl rfl ha_r8 dX12_mustName_12 hf (fun r8 σ7 hk => ?_)
    replace hf := hk
    clear hk
    refine r_ifneZ (b := r8) (tgt := 45) (by decide) dX12_mustName_15 (fun hc => ?_) (fun hc => ?_)
    · replace hf := hf.1 hc
      exact r_sub [0] rfl (b_X12_mustName_45 hf)
    · replace hf := hf.2 hc
      refine r_aload_n (j := 0) rfl rfl dX12_mustName_18 ?_
      refine r_ldcS (j := 26) rfl dX12_mustName_19 ?_
      try unfold C_X12_isWord at hf
      obtain ⟨⟨fs_r10, ha_r10⟩, hf⟩ := hf
      refine r_invVZ (t := 12) (As := [aR (some (gK G 26))]) (dz := d) (mz := 0) (sz := 0) rfl wd_7_119 wd_7_121 wd_p_55 cf_X12_isWord (Nat.le_refl _) (Nat.zero_le _) (Nat.zero_le _) (cat_ok (Nat.le_of_ble_eq_true rfl)) rfl rfl ha_r10 dX12_mustName_21 hf (fun r10 σ9 hk => ?_)
      replace hf := hk
      clear hk
      refine r_ifneZ (b := r10) (tgt := 45) (by decide) dX12_mustName_24 (fun hc => ?_) (fun hc => ?_)
      · replace hf := hf.1 hc
        exact r_sub [0] rfl (b_X12_mustName_45 hf)
      · replace hf := hf.2 hc
        refine r_aload_n (j := 0) rfl rfl dX12_mustName_27 ?_
        refine r_ldcS (j := 27) rfl dX12_mustName_28 ?_
        try unfold C_X12_isWord at hf
        obtain ⟨⟨fs_r12, ha_r12⟩, hf⟩ := hf
        refine r_invVZ (t := 12) (As := [aR (some (gK G 27))]) (dz := d) (mz := 0) (sz := 0) rfl wd_7_119 wd_7_121 wd_p_55 cf_X12_isWord (Nat.le_refl _) (Nat.zero_le _) (Nat.zero_le _) (cat_ok (Nat.le_of_ble_eq_true rfl)) rfl rfl ha_r12 dX12_mustName_30 hf (fun r12 σ11 hk => ?_)
        replace hf := hk
        clear hk
        refine r_ifneZ (b := r12) (tgt := 45) (by decide) dX12_mustName_33 (fun hc => ?_) (fun hc => ?_)
        · replace hf := hf.1 hc
          exact r_sub [0] rfl (b_X12_mustName_45 hf)
        · replace hf := hf.2 hc
          refine r_aload_n (j := 0) rfl rfl dX12_mustName_36 ?_
          refine r_ldcS (j := 28) rfl dX12_mustName_37 ?_
          try unfold C_X12_isWord at hf
          obtain ⟨⟨fs_r14, ha_r14⟩, hf⟩ := hf
          refine r_invVZ (t := 12) (As := [aR (some (gK G 28))]) (dz := d) (mz := 0) (sz := 0) rfl wd_7_119 wd_7_121 wd_p_55 cf_X12_isWord (Nat.le_refl _) (Nat.zero_le _) (Nat.zero_le _) (cat_ok (Nat.le_of_ble_eq_true rfl)) rfl rfl ha_r14 dX12_mustName_39 hf (fun r14 σ13 hk => ?_)
          replace hf := hk
          clear hk
          refine r_ifeqZ (b := r14) (tgt := 49) (by decide) dX12_mustName_42 (fun hc => ?_) (fun hc => ?_)
          · replace hf := hf.1 hc
            refine r_iconst (v := 0) (by decide) dX12_mustName_49 ?_
            exact r_sub [0] rfl (b_X12_mustName_50 hf)
          · replace hf := hf.2 hc
            exact r_sub [0] rfl (b_X12_mustName_45 hf)
theorem m_X12_mustName {l : Launch} {G : GG} {d : Nat} {v0 : Nat} {σ : Hp} {K : Hp → Prop} (hr : rv σ v0 12) (hf : F_X12_mustName l G d v0 σ K) : C_X12_mustName l G (d + 1) v0 σ K := ⟨hr, Sp.of (by decide) (Nat.le_of_ble_eq_true rfl) (b_X12_mustName_0 hf) rfl⟩
def F_X12_find_84 (l : Launch) (G : GG) (d : Nat) (X2 : Nat → Int32 → Hp → Prop) (X44 : Nat → Int32 → Bool → Int32 → Hp → Prop) (v0 : Nat) (v1 : Int32) (v3 : Int32) (s0 : Bool) (σ : Hp) (K : Int32 → Hp → Prop) : Prop :=
  X44 v0 v1 s0 (v3 + 1) σ
set_option maxRecDepth 100000 in
set_option maxHeartbeats 4000000 in
theorem b_X12_find_84 {l : Launch} {G : GG} {d : Nat} {X2 : Nat → Int32 → Hp → Prop} {X44 : Nat → Int32 → Bool → Int32 → Hp → Prop} {v0 : Nat} {v1 : Int32} {v3 : Int32} {s0 : Bool} {σ : Hp} {K : Int32 → Hp → Prop} (hX2 : ∀ v0 v1 σ, X2 v0 v1 σ → Wd l G (d + 1) "CoinsLaidModel" yX12_find cX12_find 4 (some FieldType.int) 2 [(0, aR (some v0)), (1, aI v1)] [] σ 0 0 (xM (QI K))) (hX44 : ∀ v0 v1 v2 v3 σ, X44 v0 v1 v2 v3 σ → Wd l G (d + 1) "CoinsLaidModel" yX12_find cX12_find 4 (some FieldType.int) 44 [(0, aR (some v0)), (1, aI v1), (2, aI (bi v2)), (3, aI v3)] [] σ 0 0 (xM (QI K))) (hf : F_X12_find_84 l G d X2 X44 v0 v1 v3 s0 σ K) : Wd l G (d + 1) "CoinsLaidModel" yX12_find cX12_find 4 (some FieldType.int) 84 [(0, aR (some v0)), (1, aI v1), (3, aI v3)] [aI (bi s0)] σ 0 0 (xM (QI K)) := by
  unfold F_X12_find_84 at hf
  refine r_istore_n (L' := [(2, aI (bi s0)), (0, aR (some v0)), (1, aI v1), (3, aI v3)]) rfl rfl (Nat.le_of_ble_eq_true rfl) dX12_find_84 ?_
  refine r_iinc (j := 3) (w := (v3 + 1)) (L' := [(3, aI (v3 + 1)), (2, aI (bi s0)), (0, aR (some v0)), (1, aI v1)]) rfl (by rfl) rfl (Nat.le_of_ble_eq_true rfl) dX12_find_85 ?_
  refine r_goto (tgt := 44) (by decide) dX12_find_88 ?_
  exact r_sub [2, 3, 1, 0] rfl (hX44 _ _ _ _ _ hf)
def F_X12_find_91 (l : Launch) (G : GG) (d : Nat) (X2 : Nat → Int32 → Hp → Prop) (v0 : Nat) (v1 : Int32) (v2 : Bool) (σ : Hp) (K : Int32 → Hp → Prop) : Prop :=
  (v2 = false →
    X2 v0 (v1 + 1) σ) ∧
  (v2 = true →
    K v1 σ)
set_option maxRecDepth 100000 in
set_option maxHeartbeats 4000000 in
theorem b_X12_find_91 {l : Launch} {G : GG} {d : Nat} {X2 : Nat → Int32 → Hp → Prop} {v0 : Nat} {v1 : Int32} {v2 : Bool} {σ : Hp} {K : Int32 → Hp → Prop} (hX2 : ∀ v0 v1 σ, X2 v0 v1 σ → Wd l G (d + 1) "CoinsLaidModel" yX12_find cX12_find 4 (some FieldType.int) 2 [(0, aR (some v0)), (1, aI v1)] [] σ 0 0 (xM (QI K))) (hf : F_X12_find_91 l G d X2 v0 v1 v2 σ K) : Wd l G (d + 1) "CoinsLaidModel" yX12_find cX12_find 4 (some FieldType.int) 91 [(0, aR (some v0)), (1, aI v1), (2, aI (bi v2))] [] σ 0 0 (xM (QI K)) := by
  unfold F_X12_find_91 at hf
  refine r_iload_n (j := 2) rfl rfl dX12_find_91 ?_
  refine r_ifeqZ (b := v2) (tgt := 97) (by decide) dX12_find_92 (fun hc => ?_) (fun hc => ?_)
  · replace hf := hf.1 hc
    refine r_iinc (j := 1) (w := (v1 + 1)) (L' := [(1, aI (v1 + 1)), (0, aR (some v0)), (2, aI (bi v2))]) rfl (by rfl) rfl (Nat.le_of_ble_eq_true rfl) dX12_find_97 ?_
    refine r_goto (tgt := 2) (by decide) dX12_find_100 ?_
    exact r_sub [1, 0] rfl (hX2 _ _ _ hf)
  · replace hf := hf.2 hc
    refine r_iload_n (j := 1) rfl rfl dX12_find_95 ?_
    exact r_ireturn rfl dX12_find_96 rfl ⟨_, rfl, hf⟩
def F_X12_find_44 (l : Launch) (G : GG) (d : Nat) (X2 : Nat → Int32 → Hp → Prop) (X44 : Nat → Int32 → Bool → Int32 → Hp → Prop) (v0 : Nat) (v1 : Int32) (v2 : Bool) (v3 : Int32) (σ : Hp) (K : Int32 → Hp → Prop) : Prop :=
  fI σ v0 12 8 fun x1 =>
  ((x1 : Int32) ≤ (v3 : Int32) →
    F_X12_find_91 l G d X2 v0 v1 v2 σ K) ∧
  (¬ (x1 : Int32) ≤ (v3 : Int32) →
    (v2 = false →
      F_X12_find_91 l G d X2 v0 v1 v2 σ K) ∧
    (v2 = true →
      fN σ v0 12 16 fun x2 =>
      gI σ x2 ((44 + (8 * v1)) + v3) fun x3 =>
      fN σ v0 12 12 fun x4 =>
      gI σ x4 v3 fun x5 =>
      (¬ (x3 : Int32) = (x5 : Int32) →
        F_X12_find_84 l G d X2 X44 v0 v1 v3 false σ K) ∧
      ((x3 : Int32) = (x5 : Int32) →
        F_X12_find_84 l G d X2 X44 v0 v1 v3 true σ K)))
set_option maxRecDepth 100000 in
set_option maxHeartbeats 4000000 in
theorem b_X12_find_44 {l : Launch} {G : GG} {d : Nat} {X2 : Nat → Int32 → Hp → Prop} {X44 : Nat → Int32 → Bool → Int32 → Hp → Prop} {v0 : Nat} {v1 : Int32} {v2 : Bool} {v3 : Int32} {σ : Hp} {K : Int32 → Hp → Prop} (hX2 : ∀ v0 v1 σ, X2 v0 v1 σ → Wd l G (d + 1) "CoinsLaidModel" yX12_find cX12_find 4 (some FieldType.int) 2 [(0, aR (some v0)), (1, aI v1)] [] σ 0 0 (xM (QI K))) (hX44 : ∀ v0 v1 v2 v3 σ, X44 v0 v1 v2 v3 σ → Wd l G (d + 1) "CoinsLaidModel" yX12_find cX12_find 4 (some FieldType.int) 44 [(0, aR (some v0)), (1, aI v1), (2, aI (bi v2)), (3, aI v3)] [] σ 0 0 (xM (QI K))) (hf : F_X12_find_44 l G d X2 X44 v0 v1 v2 v3 σ K) : Wd l G (d + 1) "CoinsLaidModel" yX12_find cX12_find 4 (some FieldType.int) 44 [(0, aR (some v0)), (1, aI v1), (2, aI (bi v2)), (3, aI v3)] [] σ 0 0 (xM (QI K)) := by
  unfold F_X12_find_44 at hf
  refine r_iload_n (j := 3) rfl rfl dX12_find_44 ?_
  refine r_aload_n (j := 0) rfl rfl dX12_find_45 ?_
  obtain ⟨fs_x1, x1, ha_x1, hv_x1, hf⟩ := hf
  refine r_get (Cn := RX12) (Tt := TX12) (N := 42) (n := 8) rfl uw_X12 (Nat.le_of_ble_eq_true rfl) wd_6_194 ha_x1 hv_x1 dX12_find_46 ?_
  refine r_icmpge (x := v3) (y := x1) (tgt := 91) (by decide) dX12_find_49 (fun hc => ?_) (fun hc => ?_)
  · replace hf := hf.1 hc
    exact r_sub [0, 1, 2] rfl (b_X12_find_91 hX2 hf)
  · replace hf := hf.2 hc
    refine r_iload_n (j := 2) rfl rfl dX12_find_52 ?_
    refine r_ifeqZ (b := v2) (tgt := 91) (by decide) dX12_find_53 (fun hc => ?_) (fun hc => ?_)
    · replace hf := hf.1 hc
      exact r_sub [0, 1, 2] rfl (b_X12_find_91 hX2 hf)
    · replace hf := hf.2 hc
      refine r_aload_n (j := 0) rfl rfl dX12_find_56 ?_
      obtain ⟨fs_x2, x2, ha_x2, hv_x2, hf⟩ := hf
      refine r_get (Cn := RX12) (Tt := TX12) (N := 42) (n := 16) rfl uw_X12 (Nat.le_of_ble_eq_true rfl) wd_6_202 ha_x2 hv_x2 dX12_find_57 ?_
      refine r_bipush (v := 44) (by decide) dX12_find_60 ?_
      refine r_bipush (v := 8) (by decide) dX12_find_62 ?_
      refine r_iload_n (j := 1) rfl rfl dX12_find_64 ?_
      refine r_imul (x := 8) (y := v1) dX12_find_65 ?_
      refine r_iadd (x := 44) (y := (8 * v1)) dX12_find_66 ?_
      refine r_iload_n (j := 3) rfl rfl dX12_find_67 ?_
      refine r_iadd (x := (44 + (8 * v1))) (y := v3) dX12_find_68 ?_
      obtain ⟨N_x3, f_x3, ha_x3, hi_x3, hf⟩ := hf
      refine r_iald ha_x3 hi_x3 dX12_find_69 ?_
      generalize f_x3 (((44 + (8 * v1)) + v3) : Int32).toNatClampNeg = x3 at hf ⊢
      refine r_aload_n (j := 0) rfl rfl dX12_find_70 ?_
      obtain ⟨fs_x4, x4, ha_x4, hv_x4, hf⟩ := hf
      refine r_get (Cn := RX12) (Tt := TX12) (N := 42) (n := 12) rfl uw_X12 (Nat.le_of_ble_eq_true rfl) wd_6_198 ha_x4 hv_x4 dX12_find_71 ?_
      refine r_iload_n (j := 3) rfl rfl dX12_find_74 ?_
      obtain ⟨N_x5, f_x5, ha_x5, hi_x5, hf⟩ := hf
      refine r_iald ha_x5 hi_x5 dX12_find_75 ?_
      generalize f_x5 (v3 : Int32).toNatClampNeg = x5 at hf ⊢
      refine r_icmpne (x := x3) (y := x5) (tgt := 83) (by decide) dX12_find_76 (fun hc => ?_) (fun hc => ?_)
      · replace hf := hf.1 hc
        refine r_iconst (v := 0) (by decide) dX12_find_83 ?_
        exact r_sub [0, 1, 3] rfl (b_X12_find_84 hX2 hX44 hf)
      · replace hf := hf.2 hc
        refine r_iconst (v := 1) (by decide) dX12_find_79 ?_
        refine r_goto (tgt := 84) (by decide) dX12_find_80 ?_
        exact r_sub [0, 1, 3] rfl (b_X12_find_84 hX2 hX44 hf)
def Z_X12_find_44 (l : Launch) (G : GG) (d : Nat) (X2 : Nat → Int32 → Hp → Prop) (K : Int32 → Hp → Prop) : Nat → Nat → Int32 → Bool → Int32 → Hp → Prop
  | 0 => fun _ _ _ _ _ => False
  | n + 1 => fun v0 v1 v2 v3 σ => F_X12_find_44 l G d X2 (Z_X12_find_44 l G d X2 K n) v0 v1 v2 v3 σ K
theorem z_X12_find_44 {l : Launch} {G : GG} {d : Nat} {X2 : Nat → Int32 → Hp → Prop} {K : Int32 → Hp → Prop} (hX2 : ∀ v0 v1 σ, X2 v0 v1 σ → Wd l G (d + 1) "CoinsLaidModel" yX12_find cX12_find 4 (some FieldType.int) 2 [(0, aR (some v0)), (1, aI v1)] [] σ 0 0 (xM (QI K))) : ∀ (n : Nat) v0 v1 v2 v3 σ, Z_X12_find_44 l G d X2 K n v0 v1 v2 v3 σ → Wd l G (d + 1) "CoinsLaidModel" yX12_find cX12_find 4 (some FieldType.int) 44 [(0, aR (some v0)), (1, aI v1), (2, aI (bi v2)), (3, aI v3)] [] σ 0 0 (xM (QI K)) := by
  intro n
  induction n with
  | zero => intro v0 v1 v2 v3 σ hf; exact hf.elim
  | succ n ih => intro v0 v1 v2 v3 σ hf; exact b_X12_find_44 hX2 ih hf
def F_X12_find_41 (l : Launch) (G : GG) (d : Nat) (X2 : Nat → Int32 → Hp → Prop) (v0 : Nat) (v1 : Int32) (s0 : Bool) (σ : Hp) (K : Int32 → Hp → Prop) : Prop :=
  ∃ n, Z_X12_find_44 l G d X2 K n v0 v1 s0 0 σ
set_option maxRecDepth 100000 in
set_option maxHeartbeats 4000000 in
theorem b_X12_find_41 {l : Launch} {G : GG} {d : Nat} {X2 : Nat → Int32 → Hp → Prop} {v0 : Nat} {v1 : Int32} {s0 : Bool} {σ : Hp} {K : Int32 → Hp → Prop} (hX2 : ∀ v0 v1 σ, X2 v0 v1 σ → Wd l G (d + 1) "CoinsLaidModel" yX12_find cX12_find 4 (some FieldType.int) 2 [(0, aR (some v0)), (1, aI v1)] [] σ 0 0 (xM (QI K))) (hf : F_X12_find_41 l G d X2 v0 v1 s0 σ K) : Wd l G (d + 1) "CoinsLaidModel" yX12_find cX12_find 4 (some FieldType.int) 41 [(0, aR (some v0)), (1, aI v1)] [aI (bi s0)] σ 0 0 (xM (QI K)) := by
  unfold F_X12_find_41 at hf
  refine r_istore_n (L' := [(2, aI (bi s0)), (0, aR (some v0)), (1, aI v1)]) rfl rfl (Nat.le_of_ble_eq_true rfl) dX12_find_41 ?_
  refine r_iconst (v := 0) (by decide) dX12_find_42 ?_
  refine r_istore_n (L' := [(3, aI 0), (2, aI (bi s0)), (0, aR (some v0)), (1, aI v1)]) rfl rfl (Nat.le_of_ble_eq_true rfl) dX12_find_43 ?_
  obtain ⟨n, hf⟩ := hf
  exact r_sub [2, 3, 1, 0] rfl (z_X12_find_44 hX2 n _ _ _ _ _ hf)
def F_X12_find_40 (l : Launch) (G : GG) (d : Nat) (X2 : Nat → Int32 → Hp → Prop) (v0 : Nat) (v1 : Int32) (σ : Hp) (K : Int32 → Hp → Prop) : Prop :=
  F_X12_find_41 l G d X2 v0 v1 false σ K
set_option maxRecDepth 100000 in
set_option maxHeartbeats 4000000 in
theorem b_X12_find_40 {l : Launch} {G : GG} {d : Nat} {X2 : Nat → Int32 → Hp → Prop} {v0 : Nat} {v1 : Int32} {σ : Hp} {K : Int32 → Hp → Prop} (hX2 : ∀ v0 v1 σ, X2 v0 v1 σ → Wd l G (d + 1) "CoinsLaidModel" yX12_find cX12_find 4 (some FieldType.int) 2 [(0, aR (some v0)), (1, aI v1)] [] σ 0 0 (xM (QI K))) (hf : F_X12_find_40 l G d X2 v0 v1 σ K) : Wd l G (d + 1) "CoinsLaidModel" yX12_find cX12_find 4 (some FieldType.int) 40 [(0, aR (some v0)), (1, aI v1)] [] σ 0 0 (xM (QI K)) := by
  unfold F_X12_find_40 at hf
  refine r_iconst (v := 0) (by decide) dX12_find_40 ?_
  exact r_sub [0, 1] rfl (b_X12_find_41 hX2 hf)
def F_X12_find_2 (l : Launch) (G : GG) (d : Nat) (X2 : Nat → Int32 → Hp → Prop) (v0 : Nat) (v1 : Int32) (σ : Hp) (K : Int32 → Hp → Prop) : Prop :=
  ((7 : Int32) ≤ (v1 : Int32) →
    K (-1) σ) ∧
  (¬ (7 : Int32) ≤ (v1 : Int32) →
    fN σ v0 12 16 fun x6 =>
    gI σ x6 (37 + v1) fun x7 =>
    ((x7 : Int32) ≤ 0 →
      F_X12_find_40 l G d X2 v0 v1 σ K) ∧
    (¬ (x7 : Int32) ≤ 0 →
      fN σ v0 12 16 fun x8 =>
      gI σ x8 (37 + v1) fun x9 =>
      fI σ v0 12 8 fun x10 =>
      (¬ (x9 : Int32) = (x10 : Int32) →
        F_X12_find_40 l G d X2 v0 v1 σ K) ∧
      ((x9 : Int32) = (x10 : Int32) →
        F_X12_find_41 l G d X2 v0 v1 true σ K)))
set_option maxRecDepth 100000 in
set_option maxHeartbeats 4000000 in
theorem b_X12_find_2 {l : Launch} {G : GG} {d : Nat} {X2 : Nat → Int32 → Hp → Prop} {v0 : Nat} {v1 : Int32} {σ : Hp} {K : Int32 → Hp → Prop} (hX2 : ∀ v0 v1 σ, X2 v0 v1 σ → Wd l G (d + 1) "CoinsLaidModel" yX12_find cX12_find 4 (some FieldType.int) 2 [(0, aR (some v0)), (1, aI v1)] [] σ 0 0 (xM (QI K))) (hf : F_X12_find_2 l G d X2 v0 v1 σ K) : Wd l G (d + 1) "CoinsLaidModel" yX12_find cX12_find 4 (some FieldType.int) 2 [(0, aR (some v0)), (1, aI v1)] [] σ 0 0 (xM (QI K)) := by
  unfold F_X12_find_2 at hf
  refine r_iload_n (j := 1) rfl rfl dX12_find_2 ?_
  refine r_bipush (v := 7) (by decide) dX12_find_3 ?_
  refine r_icmpge (x := v1) (y := 7) (tgt := 103) (by decide) dX12_find_5 (fun hc => ?_) (fun hc => ?_)
  · replace hf := hf.1 hc
    refine r_iconst (v := (-1)) (by decide) dX12_find_103 ?_
    exact r_ireturn rfl dX12_find_104 rfl ⟨_, rfl, hf⟩
  · replace hf := hf.2 hc
    refine r_aload_n (j := 0) rfl rfl dX12_find_8 ?_
    obtain ⟨fs_x6, x6, ha_x6, hv_x6, hf⟩ := hf
    refine r_get (Cn := RX12) (Tt := TX12) (N := 42) (n := 16) rfl uw_X12 (Nat.le_of_ble_eq_true rfl) wd_6_202 ha_x6 hv_x6 dX12_find_9 ?_
    refine r_bipush (v := 37) (by decide) dX12_find_12 ?_
    refine r_iload_n (j := 1) rfl rfl dX12_find_14 ?_
    refine r_iadd (x := 37) (y := v1) dX12_find_15 ?_
    obtain ⟨N_x7, f_x7, ha_x7, hi_x7, hf⟩ := hf
    refine r_iald ha_x7 hi_x7 dX12_find_16 ?_
    generalize f_x7 ((37 + v1) : Int32).toNatClampNeg = x7 at hf ⊢
    refine r_ifle (x := x7) (tgt := 40) (by decide) dX12_find_17 (fun hc => ?_) (fun hc => ?_)
    · replace hf := hf.1 hc
      exact r_sub [0, 1] rfl (b_X12_find_40 hX2 hf)
    · replace hf := hf.2 hc
      refine r_aload_n (j := 0) rfl rfl dX12_find_20 ?_
      obtain ⟨fs_x8, x8, ha_x8, hv_x8, hf⟩ := hf
      refine r_get (Cn := RX12) (Tt := TX12) (N := 42) (n := 16) rfl uw_X12 (Nat.le_of_ble_eq_true rfl) wd_6_202 ha_x8 hv_x8 dX12_find_21 ?_
      refine r_bipush (v := 37) (by decide) dX12_find_24 ?_
      refine r_iload_n (j := 1) rfl rfl dX12_find_26 ?_
      refine r_iadd (x := 37) (y := v1) dX12_find_27 ?_
      obtain ⟨N_x9, f_x9, ha_x9, hi_x9, hf⟩ := hf
      refine r_iald ha_x9 hi_x9 dX12_find_28 ?_
      generalize f_x9 ((37 + v1) : Int32).toNatClampNeg = x9 at hf ⊢
      refine r_aload_n (j := 0) rfl rfl dX12_find_29 ?_
      obtain ⟨fs_x10, x10, ha_x10, hv_x10, hf⟩ := hf
      refine r_get (Cn := RX12) (Tt := TX12) (N := 42) (n := 8) rfl uw_X12 (Nat.le_of_ble_eq_true rfl) wd_6_194 ha_x10 hv_x10 dX12_find_30 ?_
      refine r_icmpne (x := x9) (y := x10) (tgt := 40) (by decide) dX12_find_33 (fun hc => ?_) (fun hc => ?_)
      · replace hf := hf.1 hc
        exact r_sub [0, 1] rfl (b_X12_find_40 hX2 hf)
      · replace hf := hf.2 hc
        refine r_iconst (v := 1) (by decide) dX12_find_36 ?_
        refine r_goto (tgt := 41) (by decide) dX12_find_37 ?_
        exact r_sub [0, 1] rfl (b_X12_find_41 hX2 hf)
def Z_X12_find_2 (l : Launch) (G : GG) (d : Nat) (K : Int32 → Hp → Prop) : Nat → Nat → Int32 → Hp → Prop
  | 0 => fun _ _ _ => False
  | n + 1 => fun v0 v1 σ => F_X12_find_2 l G d (Z_X12_find_2 l G d K n) v0 v1 σ K
theorem z_X12_find_2 {l : Launch} {G : GG} {d : Nat} {K : Int32 → Hp → Prop} : ∀ (n : Nat) v0 v1 σ, Z_X12_find_2 l G d K n v0 v1 σ → Wd l G (d + 1) "CoinsLaidModel" yX12_find cX12_find 4 (some FieldType.int) 2 [(0, aR (some v0)), (1, aI v1)] [] σ 0 0 (xM (QI K)) := by
  intro n
  induction n with
  | zero => intro v0 v1 σ hf; exact hf.elim
  | succ n ih => intro v0 v1 σ hf; exact b_X12_find_2 ih hf
def F_X12_find (l : Launch) (G : GG) (d : Nat) (v0 : Nat) (σ : Hp) (K : Int32 → Hp → Prop) : Prop :=
  ∃ n, Z_X12_find_2 l G d K n v0 0 σ
set_option maxRecDepth 100000 in
set_option maxHeartbeats 4000000 in
theorem b_X12_find_0 {l : Launch} {G : GG} {d : Nat} {v0 : Nat} {σ : Hp} {K : Int32 → Hp → Prop} (hf : F_X12_find l G d v0 σ K) : Wd l G (d + 1) "CoinsLaidModel" yX12_find cX12_find 4 (some FieldType.int) 0 [(0, aR (some v0))] [] σ 0 0 (xM (QI K)) := by
  unfold F_X12_find at hf
  refine r_iconst (v := 0) (by decide) dX12_find_0 ?_
  refine r_istore_n (L' := [(1, aI 0), (0, aR (some v0))]) rfl rfl (Nat.le_of_ble_eq_true rfl) dX12_find_1 ?_
  obtain ⟨n, hf⟩ := hf
  exact r_sub [1, 0] rfl (z_X12_find_2 n _ _ _ hf)
theorem m_X12_find {l : Launch} {G : GG} {d : Nat} {v0 : Nat} {σ : Hp} {K : Int32 → Hp → Prop} (hr : rv σ v0 12) (hf : F_X12_find l G d v0 σ K) : C_X12_find l G (d + 1) v0 σ K := ⟨hr, Sp.of (by decide) (Nat.le_of_ble_eq_true rfl) (b_X12_find_0 hf) rfl⟩
def F_X12_newName_45 (l : Launch) (G : GG) (d : Nat) (X45 : Nat → Int32 → Int32 → Hp → Prop) (v0 : Nat) (v1 : Int32) (v2 : Int32) (σ : Hp) (K : Hp → Prop) : Prop :=
  fI σ v0 12 8 fun x1 =>
  ((x1 : Int32) ≤ (v2 : Int32) →
    fN σ v0 12 16 fun x2 =>
    fI σ v0 12 8 fun x3 =>
    sI σ x2 (37 + v1) x3 fun σ4 =>
    C_X12_next l G d v0 σ4 fun σ6 =>
    K σ6) ∧
  (¬ (x1 : Int32) ≤ (v2 : Int32) →
    fN σ v0 12 16 fun x8 =>
    fN σ v0 12 12 fun x9 =>
    gI σ x9 v2 fun x10 =>
    sI σ x8 ((44 + (8 * v1)) + v2) x10 fun σ11 =>
    X45 v0 v1 (v2 + 1) σ11)
set_option maxRecDepth 100000 in
set_option maxHeartbeats 4000000 in
theorem b_X12_newName_45 {l : Launch} {G : GG} {d : Nat} {X45 : Nat → Int32 → Int32 → Hp → Prop} {v0 : Nat} {v1 : Int32} {v2 : Int32} {σ : Hp} {K : Hp → Prop} (hX45 : ∀ v0 v1 v2 σ, X45 v0 v1 v2 σ → Wd l G (d + 1) "CoinsLaidModel" yX12_newName cX12_newName 3 none 45 [(0, aR (some v0)), (1, aI v1), (2, aI v2)] [] σ 0 0 (xM (QV K))) (hf : F_X12_newName_45 l G d X45 v0 v1 v2 σ K) : Wd l G (d + 1) "CoinsLaidModel" yX12_newName cX12_newName 3 none 45 [(0, aR (some v0)), (1, aI v1), (2, aI v2)] [] σ 0 0 (xM (QV K)) := by
  unfold F_X12_newName_45 at hf
  refine r_iload_n (j := 2) rfl rfl dX12_newName_45 ?_
  refine r_aload_n (j := 0) rfl rfl dX12_newName_46 ?_
  obtain ⟨fs_x1, x1, ha_x1, hv_x1, hf⟩ := hf
  refine r_get (Cn := RX12) (Tt := TX12) (N := 42) (n := 8) rfl uw_X12 (Nat.le_of_ble_eq_true rfl) wd_6_194 ha_x1 hv_x1 dX12_newName_47 ?_
  refine r_icmpge (x := v2) (y := x1) (tgt := 79) (by decide) dX12_newName_50 (fun hc => ?_) (fun hc => ?_)
  · replace hf := hf.1 hc
    refine r_aload_n (j := 0) rfl rfl dX12_newName_79 ?_
    obtain ⟨fs_x2, x2, ha_x2, hv_x2, hf⟩ := hf
    refine r_get (Cn := RX12) (Tt := TX12) (N := 42) (n := 16) rfl uw_X12 (Nat.le_of_ble_eq_true rfl) wd_6_202 ha_x2 hv_x2 dX12_newName_80 ?_
    refine r_bipush (v := 37) (by decide) dX12_newName_83 ?_
    refine r_iload_n (j := 1) rfl rfl dX12_newName_85 ?_
    refine r_iadd (x := 37) (y := v1) dX12_newName_86 ?_
    refine r_aload_n (j := 0) rfl rfl dX12_newName_87 ?_
    obtain ⟨fs_x3, x3, ha_x3, hv_x3, hf⟩ := hf
    refine r_get (Cn := RX12) (Tt := TX12) (N := 42) (n := 8) rfl uw_X12 (Nat.le_of_ble_eq_true rfl) wd_6_194 ha_x3 hv_x3 dX12_newName_88 ?_
    obtain ⟨N_x5, f_x5, ha_x5, hi_x5, hf⟩ := hf
    generalize hσ4 : hset σ x2 (iA N_x5 (up_ f_x5 ((37 + v1) : Int32).toNatClampNeg x3)) = σ4 at hf
    refine r_iast (f := f_x5) (x := x3) ha_x5 hi_x5 dX12_newName_91 ?_
    refine Eq.mpr (congrArg (fun z => Wd _ _ _ _ _ _ _ _ _ _ _ z _ _ _) hσ4) ?_
    refine r_aload_n (j := 0) rfl rfl dX12_newName_92 ?_
    try unfold C_X12_next at hf
    obtain ⟨⟨fs_r7, ha_r7⟩, hf⟩ := hf
    refine r_invVU (t := 12) (As := []) (dz := d) (mz := 0) (sz := 0) rfl wd_7_96 wd_7_98 wd_p_51 cf_X12_next (Nat.le_refl _) (Nat.zero_le _) (Nat.zero_le _) (cat_ok (Nat.le_of_ble_eq_true rfl)) rfl rfl ha_r7 dX12_newName_93 hf (fun σ6 hk => ?_)
    replace hf := hk
    clear hk
    exact r_return rfl dX12_newName_96 rfl ⟨rfl, hf⟩
  · replace hf := hf.2 hc
    refine r_aload_n (j := 0) rfl rfl dX12_newName_53 ?_
    obtain ⟨fs_x8, x8, ha_x8, hv_x8, hf⟩ := hf
    refine r_get (Cn := RX12) (Tt := TX12) (N := 42) (n := 16) rfl uw_X12 (Nat.le_of_ble_eq_true rfl) wd_6_202 ha_x8 hv_x8 dX12_newName_54 ?_
    refine r_bipush (v := 44) (by decide) dX12_newName_57 ?_
    refine r_bipush (v := 8) (by decide) dX12_newName_59 ?_
    refine r_iload_n (j := 1) rfl rfl dX12_newName_61 ?_
    refine r_imul (x := 8) (y := v1) dX12_newName_62 ?_
    refine r_iadd (x := 44) (y := (8 * v1)) dX12_newName_63 ?_
    refine r_iload_n (j := 2) rfl rfl dX12_newName_64 ?_
    refine r_iadd (x := (44 + (8 * v1))) (y := v2) dX12_newName_65 ?_
    refine r_aload_n (j := 0) rfl rfl dX12_newName_66 ?_
    obtain ⟨fs_x9, x9, ha_x9, hv_x9, hf⟩ := hf
    refine r_get (Cn := RX12) (Tt := TX12) (N := 42) (n := 12) rfl uw_X12 (Nat.le_of_ble_eq_true rfl) wd_6_198 ha_x9 hv_x9 dX12_newName_67 ?_
    refine r_iload_n (j := 2) rfl rfl dX12_newName_70 ?_
    obtain ⟨N_x10, f_x10, ha_x10, hi_x10, hf⟩ := hf
    refine r_iald ha_x10 hi_x10 dX12_newName_71 ?_
    generalize f_x10 (v2 : Int32).toNatClampNeg = x10 at hf ⊢
    obtain ⟨N_x12, f_x12, ha_x12, hi_x12, hf⟩ := hf
    generalize hσ11 : hset σ x8 (iA N_x12 (up_ f_x12 (((44 + (8 * v1)) + v2) : Int32).toNatClampNeg x10)) = σ11 at hf
    refine r_iast (f := f_x12) (x := x10) ha_x12 hi_x12 dX12_newName_72 ?_
    refine Eq.mpr (congrArg (fun z => Wd _ _ _ _ _ _ _ _ _ _ _ z _ _ _) hσ11) ?_
    refine r_iinc (j := 2) (w := (v2 + 1)) (L' := [(2, aI (v2 + 1)), (0, aR (some v0)), (1, aI v1)]) rfl (by rfl) rfl (Nat.le_of_ble_eq_true rfl) dX12_newName_73 ?_
    refine r_goto (tgt := 45) (by decide) dX12_newName_76 ?_
    exact r_sub [1, 2, 0] rfl (hX45 _ _ _ _ hf)
def Z_X12_newName_45 (l : Launch) (G : GG) (d : Nat) (K : Hp → Prop) : Nat → Nat → Int32 → Int32 → Hp → Prop
  | 0 => fun _ _ _ _ => False
  | n + 1 => fun v0 v1 v2 σ => F_X12_newName_45 l G d (Z_X12_newName_45 l G d K n) v0 v1 v2 σ K
theorem z_X12_newName_45 {l : Launch} {G : GG} {d : Nat} {K : Hp → Prop} : ∀ (n : Nat) v0 v1 v2 σ, Z_X12_newName_45 l G d K n v0 v1 v2 σ → Wd l G (d + 1) "CoinsLaidModel" yX12_newName cX12_newName 3 none 45 [(0, aR (some v0)), (1, aI v1), (2, aI v2)] [] σ 0 0 (xM (QV K)) := by
  intro n
  induction n with
  | zero => intro v0 v1 v2 σ hf; exact hf.elim
  | succ n ih => intro v0 v1 v2 σ hf; exact b_X12_newName_45 ih hf
def F_X12_newName_35 (l : Launch) (G : GG) (d : Nat) (v0 : Nat) (v1 : Int32) (σ : Hp) (K : Hp → Prop) : Prop :=
  fZ σ v0 12 13 fun x13 =>
  (x13 = false →
    ∃ n, Z_X12_newName_45 l G d K n v0 v1 0 σ) ∧
  (x13 = true →
    K σ)
set_option maxRecDepth 100000 in
set_option maxHeartbeats 4000000 in
theorem b_X12_newName_35 {l : Launch} {G : GG} {d : Nat} {v0 : Nat} {v1 : Int32} {σ : Hp} {K : Hp → Prop} (hf : F_X12_newName_35 l G d v0 v1 σ K) : Wd l G (d + 1) "CoinsLaidModel" yX12_newName cX12_newName 3 none 35 [(0, aR (some v0)), (1, aI v1)] [] σ 0 0 (xM (QV K)) := by
  unfold F_X12_newName_35 at hf
  refine r_aload_n (j := 0) rfl rfl dX12_newName_35 ?_
  obtain ⟨fs_x13, x13, ha_x13, hv_x13, hf⟩ := hf
  refine r_get (Cn := RX12) (Tt := TX12) (N := 42) (n := 13) rfl uw_X12 (Nat.le_of_ble_eq_true rfl) wd_6_199 ha_x13 hv_x13 dX12_newName_36 ?_
  refine r_ifeqZ (b := x13) (tgt := 43) (by decide) dX12_newName_39 (fun hc => ?_) (fun hc => ?_)
  · replace hf := hf.1 hc
    refine r_iconst (v := 0) (by decide) dX12_newName_43 ?_
    refine r_istore_n (L' := [(2, aI 0), (0, aR (some v0)), (1, aI v1)]) rfl rfl (Nat.le_of_ble_eq_true rfl) dX12_newName_44 ?_
    obtain ⟨n, hf⟩ := hf
    exact r_sub [1, 2, 0] rfl (z_X12_newName_45 n _ _ _ _ hf)
  · replace hf := hf.2 hc
    exact r_return rfl dX12_newName_42 rfl ⟨rfl, hf⟩
def F_X12_newName (l : Launch) (G : GG) (d : Nat) (v0 : Nat) (v1 : Int32) (σ : Hp) (K : Hp → Prop) : Prop :=
  fZ σ v0 12 13 fun x14 =>
  (x14 = false →
    C_X12_mustName l G d v0 σ fun σ15 =>
    fZ σ15 v0 12 13 fun x17 =>
    (x17 = true →
      F_X12_newName_35 l G d v0 v1 σ15 K) ∧
    (x17 = false →
      C_X12_find l G d v0 σ15 fun r19 σ18 =>
      ((r19 : Int32) < 0 →
        F_X12_newName_35 l G d v0 v1 σ18 K) ∧
      (¬ (r19 : Int32) < 0 →
        fI σ18 v0 12 4 fun x20 =>
        C_X12_wrong l G d v0 3 x20 σ18 fun σ21 =>
        F_X12_newName_35 l G d v0 v1 σ21 K))) ∧
  (x14 = true →
    K σ)
set_option maxRecDepth 100000 in
set_option maxHeartbeats 4000000 in
theorem b_X12_newName_0 {l : Launch} {G : GG} {d : Nat} {v0 : Nat} {v1 : Int32} {σ : Hp} {K : Hp → Prop} (hf : F_X12_newName l G d v0 v1 σ K) : Wd l G (d + 1) "CoinsLaidModel" yX12_newName cX12_newName 3 none 0 [(0, aR (some v0)), (1, aI v1)] [] σ 0 0 (xM (QV K)) := by
  unfold F_X12_newName at hf
  refine r_aload_n (j := 0) rfl rfl dX12_newName_0 ?_
  obtain ⟨fs_x14, x14, ha_x14, hv_x14, hf⟩ := hf
  refine r_get (Cn := RX12) (Tt := TX12) (N := 42) (n := 13) rfl uw_X12 (Nat.le_of_ble_eq_true rfl) wd_6_199 ha_x14 hv_x14 dX12_newName_1 ?_
  refine r_ifeqZ (b := x14) (tgt := 8) (by decide) dX12_newName_4 (fun hc => ?_) (fun hc => ?_)
  · replace hf := hf.1 hc
    refine r_aload_n (j := 0) rfl rfl dX12_newName_8 ?_
    try unfold C_X12_mustName at hf
    obtain ⟨⟨fs_r16, ha_r16⟩, hf⟩ := hf
    refine r_invVU (t := 12) (As := []) (dz := d) (mz := 0) (sz := 0) rfl wd_7_153 wd_7_155 wd_p_62 cf_X12_mustName (Nat.le_refl _) (Nat.zero_le _) (Nat.zero_le _) (cat_ok (Nat.le_of_ble_eq_true rfl)) rfl rfl ha_r16 dX12_newName_9 hf (fun σ15 hk => ?_)
    replace hf := hk
    clear hk
    refine r_aload_n (j := 0) rfl rfl dX12_newName_12 ?_
    obtain ⟨fs_x17, x17, ha_x17, hv_x17, hf⟩ := hf
    refine r_get (Cn := RX12) (Tt := TX12) (N := 42) (n := 13) rfl uw_X12 (Nat.le_of_ble_eq_true rfl) wd_6_199 ha_x17 hv_x17 dX12_newName_13 ?_
    refine r_ifneZ (b := x17) (tgt := 35) (by decide) dX12_newName_16 (fun hc => ?_) (fun hc => ?_)
    · replace hf := hf.1 hc
      exact r_sub [0, 1] rfl (b_X12_newName_35 hf)
    · replace hf := hf.2 hc
      refine r_aload_n (j := 0) rfl rfl dX12_newName_19 ?_
      try unfold C_X12_find at hf
      obtain ⟨⟨fs_r19, ha_r19⟩, hf⟩ := hf
      refine r_invVI (t := 12) (As := []) (dz := d) (mz := 0) (sz := 0) rfl wd_7_160 wd_7_162 wd_p_63 cf_X12_find (Nat.le_refl _) (Nat.zero_le _) (Nat.zero_le _) (cat_ok (Nat.le_of_ble_eq_true rfl)) rfl rfl ha_r19 dX12_newName_20 hf (fun r19 σ18 hk => ?_)
      replace hf := hk
      clear hk
      refine r_iflt (x := r19) (tgt := 35) (by decide) dX12_newName_23 (fun hc => ?_) (fun hc => ?_)
      · replace hf := hf.1 hc
        exact r_sub [0, 1] rfl (b_X12_newName_35 hf)
      · replace hf := hf.2 hc
        refine r_aload_n (j := 0) rfl rfl dX12_newName_26 ?_
        refine r_iconst (v := 3) (by decide) dX12_newName_27 ?_
        refine r_aload_n (j := 0) rfl rfl dX12_newName_28 ?_
        obtain ⟨fs_x20, x20, ha_x20, hv_x20, hf⟩ := hf
        refine r_get (Cn := RX12) (Tt := TX12) (N := 42) (n := 4) rfl uw_X12 (Nat.le_of_ble_eq_true rfl) wd_6_190 ha_x20 hv_x20 dX12_newName_29 ?_
        try unfold C_X12_wrong at hf
        obtain ⟨⟨fs_r22, ha_r22⟩, hf⟩ := hf
        refine r_invVU (t := 12) (As := [aI 3, aI x20]) (dz := d) (mz := 0) (sz := 0) rfl wd_7_125 wd_7_127 wd_p_56 cf_X12_wrong (Nat.le_refl _) (Nat.zero_le _) (Nat.zero_le _) (cat_ok (Nat.le_of_ble_eq_true rfl)) rfl rfl ha_r22 dX12_newName_32 hf (fun σ21 hk => ?_)
        replace hf := hk
        clear hk
        exact r_sub [0, 1] rfl (b_X12_newName_35 hf)
  · replace hf := hf.2 hc
    exact r_return rfl dX12_newName_7 rfl ⟨rfl, hf⟩
theorem m_X12_newName {l : Launch} {G : GG} {d : Nat} {v0 : Nat} {v1 : Int32} {σ : Hp} {K : Hp → Prop} (hr : rv σ v0 12) (hf : F_X12_newName l G d v0 v1 σ K) : C_X12_newName l G (d + 1) v0 v1 σ K := ⟨hr, Sp.of (by decide) (Nat.le_of_ble_eq_true rfl) (b_X12_newName_0 hf) rfl⟩
def F_X12_numberHere_65 (l : Launch) (G : GG) (d : Nat) (s0 : Int32) (σ : Hp) (K : Int32 → Hp → Prop) : Prop :=
  K s0 σ
set_option maxRecDepth 100000 in
set_option maxHeartbeats 4000000 in
theorem b_X12_numberHere_65 {l : Launch} {G : GG} {d : Nat} {s0 : Int32} {σ : Hp} {K : Int32 → Hp → Prop} (hf : F_X12_numberHere_65 l G d s0 σ K) : Wd l G (d + 1) "CoinsLaidModel" yX12_numberHere cX12_numberHere 3 (some FieldType.int) 65 [] [aI s0] σ 0 0 (xM (QI K)) := by
  unfold F_X12_numberHere_65 at hf
  exact r_ireturn rfl dX12_numberHere_65 rfl ⟨_, rfl, hf⟩
def F_X12_numberHere_50 (l : Launch) (G : GG) (d : Nat) (v0 : Nat) (v1 : Int32) (σ : Hp) (K : Int32 → Hp → Prop) : Prop :=
  fZ σ v0 12 13 fun x1 =>
  (x1 = false →
    fI σ v0 12 7 fun x2 =>
    F_X12_numberHere_65 l G d x2 σ K) ∧
  (x1 = true →
    F_X12_numberHere_65 l G d v1 σ K)
set_option maxRecDepth 100000 in
set_option maxHeartbeats 4000000 in
theorem b_X12_numberHere_50 {l : Launch} {G : GG} {d : Nat} {v0 : Nat} {v1 : Int32} {σ : Hp} {K : Int32 → Hp → Prop} (hf : F_X12_numberHere_50 l G d v0 v1 σ K) : Wd l G (d + 1) "CoinsLaidModel" yX12_numberHere cX12_numberHere 3 (some FieldType.int) 50 [(0, aR (some v0)), (1, aI v1)] [] σ 0 0 (xM (QI K)) := by
  unfold F_X12_numberHere_50 at hf
  refine r_aload_n (j := 0) rfl rfl dX12_numberHere_50 ?_
  obtain ⟨fs_x1, x1, ha_x1, hv_x1, hf⟩ := hf
  refine r_get (Cn := RX12) (Tt := TX12) (N := 42) (n := 13) rfl uw_X12 (Nat.le_of_ble_eq_true rfl) wd_6_199 ha_x1 hv_x1 dX12_numberHere_51 ?_
  refine r_ifeqZ (b := x1) (tgt := 61) (by decide) dX12_numberHere_54 (fun hc => ?_) (fun hc => ?_)
  · replace hf := hf.1 hc
    refine r_aload_n (j := 0) rfl rfl dX12_numberHere_61 ?_
    obtain ⟨fs_x2, x2, ha_x2, hv_x2, hf⟩ := hf
    refine r_get (Cn := RX12) (Tt := TX12) (N := 42) (n := 7) rfl uw_X12 (Nat.le_of_ble_eq_true rfl) wd_6_193 ha_x2 hv_x2 dX12_numberHere_62 ?_
    exact r_sub [] rfl (b_X12_numberHere_65 hf)
  · replace hf := hf.2 hc
    refine r_iload_n (j := 1) rfl rfl dX12_numberHere_57 ?_
    refine r_goto (tgt := 65) (by decide) dX12_numberHere_58 ?_
    exact r_sub [] rfl (b_X12_numberHere_65 hf)
def F_X12_numberHere (l : Launch) (G : GG) (d : Nat) (v0 : Nat) (v1 : Int32) (v2 : Int32) (σ : Hp) (K : Int32 → Hp → Prop) : Prop :=
  fZ σ v0 12 13 fun x3 =>
  (x3 = false →
    fI σ v0 12 6 fun x4 =>
    ((x4 : Int32) = (3 : Int32) →
      fI σ v0 12 7 fun x5 =>
      C_X12_within l G d x5 v1 v2 σ fun r7 σ6 =>
      (r7 = true →
        F_X12_numberHere_50 l G d v0 v1 σ6 K) ∧
      (r7 = false →
        fI σ6 v0 12 4 fun x8 =>
        C_X12_wrong l G d v0 4 x8 σ6 fun σ9 =>
        F_X12_numberHere_50 l G d v0 v1 σ9 K)) ∧
    (¬ (x4 : Int32) = (3 : Int32) →
      fI σ v0 12 4 fun x11 =>
      C_X12_wrong l G d v0 1 x11 σ fun σ12 =>
      F_X12_numberHere_50 l G d v0 v1 σ12 K)) ∧
  (x3 = true →
    K v1 σ)
set_option maxRecDepth 100000 in
set_option maxHeartbeats 4000000 in
theorem b_X12_numberHere_0 {l : Launch} {G : GG} {d : Nat} {v0 : Nat} {v1 : Int32} {v2 : Int32} {σ : Hp} {K : Int32 → Hp → Prop} (hf : F_X12_numberHere l G d v0 v1 v2 σ K) : Wd l G (d + 1) "CoinsLaidModel" yX12_numberHere cX12_numberHere 3 (some FieldType.int) 0 [(0, aR (some v0)), (1, aI v1), (2, aI v2)] [] σ 0 0 (xM (QI K)) := by
  unfold F_X12_numberHere at hf
  refine r_aload_n (j := 0) rfl rfl dX12_numberHere_0 ?_
  obtain ⟨fs_x3, x3, ha_x3, hv_x3, hf⟩ := hf
  refine r_get (Cn := RX12) (Tt := TX12) (N := 42) (n := 13) rfl uw_X12 (Nat.le_of_ble_eq_true rfl) wd_6_199 ha_x3 hv_x3 dX12_numberHere_1 ?_
  refine r_ifeqZ (b := x3) (tgt := 9) (by decide) dX12_numberHere_4 (fun hc => ?_) (fun hc => ?_)
  · replace hf := hf.1 hc
    refine r_aload_n (j := 0) rfl rfl dX12_numberHere_9 ?_
    obtain ⟨fs_x4, x4, ha_x4, hv_x4, hf⟩ := hf
    refine r_get (Cn := RX12) (Tt := TX12) (N := 42) (n := 6) rfl uw_X12 (Nat.le_of_ble_eq_true rfl) wd_6_192 ha_x4 hv_x4 dX12_numberHere_10 ?_
    refine r_iconst (v := 3) (by decide) dX12_numberHere_13 ?_
    refine r_icmpeq (x := x4) (y := 3) (tgt := 29) (by decide) dX12_numberHere_14 (fun hc => ?_) (fun hc => ?_)
    · replace hf := hf.1 hc
      refine r_aload_n (j := 0) rfl rfl dX12_numberHere_29 ?_
      obtain ⟨fs_x5, x5, ha_x5, hv_x5, hf⟩ := hf
      refine r_get (Cn := RX12) (Tt := TX12) (N := 42) (n := 7) rfl uw_X12 (Nat.le_of_ble_eq_true rfl) wd_6_193 ha_x5 hv_x5 dX12_numberHere_30 ?_
      refine r_iload_n (j := 1) rfl rfl dX12_numberHere_33 ?_
      refine r_iload_n (j := 2) rfl rfl dX12_numberHere_34 ?_
      try unfold C_X12_within at hf
      refine r_invSZ (As := [aI x5, aI v1, aI v2]) (dz := d) (mz := 0) (sz := 0) rfl wd_7_89 wd_7_90 cf_X12_within (Nat.le_refl _) (Nat.zero_le _) (Nat.zero_le _) (cat_ok (Nat.le_of_ble_eq_true rfl)) dX12_numberHere_35 hf (fun r7 σ6 hk => ?_)
      replace hf := hk
      clear hk
      refine r_ifneZ (b := r7) (tgt := 50) (by decide) dX12_numberHere_38 (fun hc => ?_) (fun hc => ?_)
      · replace hf := hf.1 hc
        exact r_sub [0, 1] rfl (b_X12_numberHere_50 hf)
      · replace hf := hf.2 hc
        refine r_aload_n (j := 0) rfl rfl dX12_numberHere_41 ?_
        refine r_iconst (v := 4) (by decide) dX12_numberHere_42 ?_
        refine r_aload_n (j := 0) rfl rfl dX12_numberHere_43 ?_
        obtain ⟨fs_x8, x8, ha_x8, hv_x8, hf⟩ := hf
        refine r_get (Cn := RX12) (Tt := TX12) (N := 42) (n := 4) rfl uw_X12 (Nat.le_of_ble_eq_true rfl) wd_6_190 ha_x8 hv_x8 dX12_numberHere_44 ?_
        try unfold C_X12_wrong at hf
        obtain ⟨⟨fs_r10, ha_r10⟩, hf⟩ := hf
        refine r_invVU (t := 12) (As := [aI 4, aI x8]) (dz := d) (mz := 0) (sz := 0) rfl wd_7_125 wd_7_127 wd_p_56 cf_X12_wrong (Nat.le_refl _) (Nat.zero_le _) (Nat.zero_le _) (cat_ok (Nat.le_of_ble_eq_true rfl)) rfl rfl ha_r10 dX12_numberHere_47 hf (fun σ9 hk => ?_)
        replace hf := hk
        clear hk
        exact r_sub [0, 1] rfl (b_X12_numberHere_50 hf)
    · replace hf := hf.2 hc
      refine r_aload_n (j := 0) rfl rfl dX12_numberHere_17 ?_
      refine r_iconst (v := 1) (by decide) dX12_numberHere_18 ?_
      refine r_aload_n (j := 0) rfl rfl dX12_numberHere_19 ?_
      obtain ⟨fs_x11, x11, ha_x11, hv_x11, hf⟩ := hf
      refine r_get (Cn := RX12) (Tt := TX12) (N := 42) (n := 4) rfl uw_X12 (Nat.le_of_ble_eq_true rfl) wd_6_190 ha_x11 hv_x11 dX12_numberHere_20 ?_
      try unfold C_X12_wrong at hf
      obtain ⟨⟨fs_r13, ha_r13⟩, hf⟩ := hf
      refine r_invVU (t := 12) (As := [aI 1, aI x11]) (dz := d) (mz := 0) (sz := 0) rfl wd_7_125 wd_7_127 wd_p_56 cf_X12_wrong (Nat.le_refl _) (Nat.zero_le _) (Nat.zero_le _) (cat_ok (Nat.le_of_ble_eq_true rfl)) rfl rfl ha_r13 dX12_numberHere_23 hf (fun σ12 hk => ?_)
      replace hf := hk
      clear hk
      refine r_goto (tgt := 50) (by decide) dX12_numberHere_26 ?_
      exact r_sub [0, 1] rfl (b_X12_numberHere_50 hf)
  · replace hf := hf.2 hc
    refine r_iload_n (j := 1) rfl rfl dX12_numberHere_7 ?_
    exact r_ireturn rfl dX12_numberHere_8 rfl ⟨_, rfl, hf⟩
theorem m_X12_numberHere {l : Launch} {G : GG} {d : Nat} {v0 : Nat} {v1 : Int32} {v2 : Int32} {σ : Hp} {K : Int32 → Hp → Prop} (hr : rv σ v0 12) (hf : F_X12_numberHere l G d v0 v1 v2 σ K) : C_X12_numberHere l G (d + 1) v0 v1 v2 σ K := ⟨hr, Sp.of (by decide) (Nat.le_of_ble_eq_true rfl) (b_X12_numberHere_0 hf) rfl⟩
def F_X12_number_18 (l : Launch) (G : GG) (d : Nat) (v3 : Int32) (σ : Hp) (K : Int32 → Hp → Prop) : Prop :=
  K v3 σ
set_option maxRecDepth 100000 in
set_option maxHeartbeats 4000000 in
theorem b_X12_number_18 {l : Launch} {G : GG} {d : Nat} {v3 : Int32} {σ : Hp} {K : Int32 → Hp → Prop} (hf : F_X12_number_18 l G d v3 σ K) : Wd l G (d + 1) "CoinsLaidModel" yX12_number cX12_number 4 (some FieldType.int) 18 [(3, aI v3)] [] σ 0 0 (xM (QI K)) := by
  unfold F_X12_number_18 at hf
  refine r_iload_n (j := 0) rfl rfl dX12_number_18 ?_
  exact r_ireturn rfl dX12_number_19 rfl ⟨_, rfl, hf⟩
def F_X12_number (l : Launch) (G : GG) (d : Nat) (v0 : Nat) (v1 : Int32) (v2 : Int32) (σ : Hp) (K : Int32 → Hp → Prop) : Prop :=
  C_X12_numberHere l G d v0 v1 v2 σ fun r2 σ1 =>
  fZ σ1 v0 12 13 fun x3 =>
  (x3 = true →
    F_X12_number_18 l G d r2 σ1 K) ∧
  (x3 = false →
    C_X12_next l G d v0 σ1 fun σ4 =>
    F_X12_number_18 l G d r2 σ4 K)
set_option maxRecDepth 100000 in
set_option maxHeartbeats 4000000 in
theorem b_X12_number_0 {l : Launch} {G : GG} {d : Nat} {v0 : Nat} {v1 : Int32} {v2 : Int32} {σ : Hp} {K : Int32 → Hp → Prop} (hf : F_X12_number l G d v0 v1 v2 σ K) : Wd l G (d + 1) "CoinsLaidModel" yX12_number cX12_number 4 (some FieldType.int) 0 [(0, aR (some v0)), (1, aI v1), (2, aI v2)] [] σ 0 0 (xM (QI K)) := by
  unfold F_X12_number at hf
  refine r_aload_n (j := 0) rfl rfl dX12_number_0 ?_
  refine r_iload_n (j := 1) rfl rfl dX12_number_1 ?_
  refine r_iload_n (j := 2) rfl rfl dX12_number_2 ?_
  try unfold C_X12_numberHere at hf
  obtain ⟨⟨fs_r2, ha_r2⟩, hf⟩ := hf
  refine r_invVI (t := 12) (As := [aI v1, aI v2]) (dz := d) (mz := 0) (sz := 0) rfl wd_7_169 wd_7_171 wd_p_65 cf_X12_numberHere (Nat.le_refl _) (Nat.zero_le _) (Nat.zero_le _) (cat_ok (Nat.le_of_ble_eq_true rfl)) rfl rfl ha_r2 dX12_number_3 hf (fun r2 σ1 hk => ?_)
  replace hf := hk
  clear hk
  refine r_istore_n (L' := [(3, aI r2), (0, aR (some v0)), (1, aI v1), (2, aI v2)]) rfl rfl (Nat.le_of_ble_eq_true rfl) dX12_number_6 ?_
  refine r_aload_n (j := 1) rfl rfl dX12_number_7 ?_
  obtain ⟨fs_x3, x3, ha_x3, hv_x3, hf⟩ := hf
  refine r_get (Cn := RX12) (Tt := TX12) (N := 42) (n := 13) rfl uw_X12 (Nat.le_of_ble_eq_true rfl) wd_6_199 ha_x3 hv_x3 dX12_number_8 ?_
  refine r_ifneZ (b := x3) (tgt := 18) (by decide) dX12_number_11 (fun hc => ?_) (fun hc => ?_)
  · replace hf := hf.1 hc
    exact r_sub [0] rfl (b_X12_number_18 hf)
  · replace hf := hf.2 hc
    refine r_aload_n (j := 1) rfl rfl dX12_number_14 ?_
    try unfold C_X12_next at hf
    obtain ⟨⟨fs_r5, ha_r5⟩, hf⟩ := hf
    refine r_invVU (t := 12) (As := []) (dz := d) (mz := 0) (sz := 0) rfl wd_7_96 wd_7_98 wd_p_51 cf_X12_next (Nat.le_refl _) (Nat.zero_le _) (Nat.zero_le _) (cat_ok (Nat.le_of_ble_eq_true rfl)) rfl rfl ha_r5 dX12_number_15 hf (fun σ4 hk => ?_)
    replace hf := hk
    clear hk
    exact r_sub [0] rfl (b_X12_number_18 hf)
theorem m_X12_number {l : Launch} {G : GG} {d : Nat} {v0 : Nat} {v1 : Int32} {v2 : Int32} {σ : Hp} {K : Int32 → Hp → Prop} (hr : rv σ v0 12) (hf : F_X12_number l G d v0 v1 v2 σ K) : C_X12_number l G (d + 1) v0 v1 v2 σ K := ⟨hr, Sp.of (by decide) (Nat.le_of_ble_eq_true rfl) (b_X12_number_0 hf) rfl⟩
def F_X12_mustComma_33 (l : Launch) (G : GG) (d : Nat) (σ : Hp) (K : Hp → Prop) : Prop :=
  K σ
set_option maxRecDepth 100000 in
set_option maxHeartbeats 4000000 in
theorem b_X12_mustComma_33 {l : Launch} {G : GG} {d : Nat} {σ : Hp} {K : Hp → Prop} (hf : F_X12_mustComma_33 l G d  σ K) : Wd l G (d + 1) "CoinsLaidModel" yX12_mustComma cX12_mustComma 1 none 33 [] [] σ 0 0 (xM (QV K)) := by
  unfold F_X12_mustComma_33 at hf
  exact r_return rfl dX12_mustComma_33 rfl ⟨rfl, hf⟩
def F_X12_mustComma (l : Launch) (G : GG) (d : Nat) (v0 : Nat) (σ : Hp) (K : Hp → Prop) : Prop :=
  fZ σ v0 12 13 fun x1 =>
  (x1 = false →
    fI σ v0 12 6 fun x2 =>
    (¬ (x2 : Int32) = (44 : Int32) →
      fI σ v0 12 4 fun x3 =>
      C_X12_wrong l G d v0 1 x3 σ fun σ4 =>
      F_X12_mustComma_33 l G d σ4 K) ∧
    ((x2 : Int32) = (44 : Int32) →
      C_X12_next l G d v0 σ fun σ6 =>
      F_X12_mustComma_33 l G d σ6 K)) ∧
  (x1 = true →
    K σ)
set_option maxRecDepth 100000 in
set_option maxHeartbeats 4000000 in
theorem b_X12_mustComma_0 {l : Launch} {G : GG} {d : Nat} {v0 : Nat} {σ : Hp} {K : Hp → Prop} (hf : F_X12_mustComma l G d v0 σ K) : Wd l G (d + 1) "CoinsLaidModel" yX12_mustComma cX12_mustComma 1 none 0 [(0, aR (some v0))] [] σ 0 0 (xM (QV K)) := by
  unfold F_X12_mustComma at hf
  refine r_aload_n (j := 0) rfl rfl dX12_mustComma_0 ?_
  obtain ⟨fs_x1, x1, ha_x1, hv_x1, hf⟩ := hf
  refine r_get (Cn := RX12) (Tt := TX12) (N := 42) (n := 13) rfl uw_X12 (Nat.le_of_ble_eq_true rfl) wd_6_199 ha_x1 hv_x1 dX12_mustComma_1 ?_
  refine r_ifeqZ (b := x1) (tgt := 8) (by decide) dX12_mustComma_4 (fun hc => ?_) (fun hc => ?_)
  · replace hf := hf.1 hc
    refine r_aload_n (j := 0) rfl rfl dX12_mustComma_8 ?_
    obtain ⟨fs_x2, x2, ha_x2, hv_x2, hf⟩ := hf
    refine r_get (Cn := RX12) (Tt := TX12) (N := 42) (n := 6) rfl uw_X12 (Nat.le_of_ble_eq_true rfl) wd_6_192 ha_x2 hv_x2 dX12_mustComma_9 ?_
    refine r_bipush (v := 44) (by decide) dX12_mustComma_12 ?_
    refine r_icmpne (x := x2) (y := 44) (tgt := 24) (by decide) dX12_mustComma_14 (fun hc => ?_) (fun hc => ?_)
    · replace hf := hf.1 hc
      refine r_aload_n (j := 0) rfl rfl dX12_mustComma_24 ?_
      refine r_iconst (v := 1) (by decide) dX12_mustComma_25 ?_
      refine r_aload_n (j := 0) rfl rfl dX12_mustComma_26 ?_
      obtain ⟨fs_x3, x3, ha_x3, hv_x3, hf⟩ := hf
      refine r_get (Cn := RX12) (Tt := TX12) (N := 42) (n := 4) rfl uw_X12 (Nat.le_of_ble_eq_true rfl) wd_6_190 ha_x3 hv_x3 dX12_mustComma_27 ?_
      try unfold C_X12_wrong at hf
      obtain ⟨⟨fs_r5, ha_r5⟩, hf⟩ := hf
      refine r_invVU (t := 12) (As := [aI 1, aI x3]) (dz := d) (mz := 0) (sz := 0) rfl wd_7_125 wd_7_127 wd_p_56 cf_X12_wrong (Nat.le_refl _) (Nat.zero_le _) (Nat.zero_le _) (cat_ok (Nat.le_of_ble_eq_true rfl)) rfl rfl ha_r5 dX12_mustComma_30 hf (fun σ4 hk => ?_)
      replace hf := hk
      clear hk
      exact r_sub [] rfl (b_X12_mustComma_33 hf)
    · replace hf := hf.2 hc
      refine r_aload_n (j := 0) rfl rfl dX12_mustComma_17 ?_
      try unfold C_X12_next at hf
      obtain ⟨⟨fs_r7, ha_r7⟩, hf⟩ := hf
      refine r_invVU (t := 12) (As := []) (dz := d) (mz := 0) (sz := 0) rfl wd_7_96 wd_7_98 wd_p_51 cf_X12_next (Nat.le_refl _) (Nat.zero_le _) (Nat.zero_le _) (cat_ok (Nat.le_of_ble_eq_true rfl)) rfl rfl ha_r7 dX12_mustComma_18 hf (fun σ6 hk => ?_)
      replace hf := hk
      clear hk
      refine r_goto (tgt := 33) (by decide) dX12_mustComma_21 ?_
      exact r_sub [] rfl (b_X12_mustComma_33 hf)
  · replace hf := hf.2 hc
    exact r_return rfl dX12_mustComma_7 rfl ⟨rfl, hf⟩
theorem m_X12_mustComma {l : Launch} {G : GG} {d : Nat} {v0 : Nat} {σ : Hp} {K : Hp → Prop} (hr : rv σ v0 12) (hf : F_X12_mustComma l G d v0 σ K) : C_X12_mustComma l G (d + 1) v0 σ K := ⟨hr, Sp.of (by decide) (Nat.le_of_ble_eq_true rfl) (b_X12_mustComma_0 hf) rfl⟩
def F_X12_table_213 (l : Launch) (G : GG) (d : Nat) (v0 : Nat) (σ : Hp) (K : Int32 → Hp → Prop) : Prop :=
  C_X12_no l G d v0 4 σ fun r2 σ1 =>
  K r2 σ1
set_option maxRecDepth 100000 in
set_option maxHeartbeats 4000000 in
theorem b_X12_table_213 {l : Launch} {G : GG} {d : Nat} {v0 : Nat} {σ : Hp} {K : Int32 → Hp → Prop} (hf : F_X12_table_213 l G d v0 σ K) : Wd l G (d + 1) "CoinsLaidModel" yX12_table cX12_table 3 (some FieldType.int) 213 [(0, aR (some v0))] [] σ 0 0 (xM (QI K)) := by
  unfold F_X12_table_213 at hf
  refine r_aload_n (j := 0) rfl rfl dX12_table_213 ?_
  refine r_iconst (v := 4) (by decide) dX12_table_214 ?_
  try unfold C_X12_no at hf
  obtain ⟨⟨fs_r2, ha_r2⟩, hf⟩ := hf
  refine r_invVI (t := 12) (As := [aI 4]) (dz := d) (mz := 0) (sz := 0) rfl wd_7_92 wd_7_94 wd_p_50 cf_X12_no (Nat.le_refl _) (Nat.zero_le _) (Nat.zero_le _) (cat_ok (Nat.le_of_ble_eq_true rfl)) rfl rfl ha_r2 dX12_table_215 hf (fun r2 σ1 hk => ?_)
  replace hf := hk
  clear hk
  exact r_ireturn rfl dX12_table_218 rfl ⟨_, rfl, hf⟩
def F_X12_table_191 (l : Launch) (G : GG) (d : Nat) (v0 : Nat) (σ : Hp) (K : Int32 → Hp → Prop) : Prop :=
  fZ σ v0 12 13 fun x3 =>
  (x3 = false →
    fN σ v0 12 16 fun x4 =>
    fN σ v0 12 15 fun x5 =>
    C_X12_copy l G d x4 0 x5 0 100 σ fun σ6 =>
    fN σ6 v0 12 18 fun x8 =>
    fN σ6 v0 12 17 fun x9 =>
    C_X12_copy l G d x8 0 x9 0 16 σ6 fun σ10 =>
    pF σ10 v0 12 14 (aI (bi true)) fun σ12 =>
    pF σ12 v0 12 21 (aI 0) fun σ14 =>
    pF σ14 v0 12 22 (aI 0) fun σ16 =>
    fN σ16 v0 12 15 fun x18 =>
    C_X12_layLays l G d v0 x18 σ16 fun σ19 =>
    C_X12_forget l G d v0 σ19 fun σ21 =>
    fI σ21 v0 12 30 fun x23 =>
    K x23 σ21) ∧
  (x3 = true →
    fZ σ v0 12 14 fun x24 =>
    (x24 = false →
      F_X12_table_213 l G d v0 σ K) ∧
    (x24 = true →
      fN σ v0 12 15 fun x25 =>
      C_X12_layLays l G d v0 x25 σ fun σ26 =>
      F_X12_table_213 l G d v0 σ26 K))
set_option maxRecDepth 100000 in
set_option maxHeartbeats 4000000 in
theorem b_X12_table_191 {l : Launch} {G : GG} {d : Nat} {v0 : Nat} {σ : Hp} {K : Int32 → Hp → Prop} (hf : F_X12_table_191 l G d v0 σ K) : Wd l G (d + 1) "CoinsLaidModel" yX12_table cX12_table 3 (some FieldType.int) 191 [(0, aR (some v0))] [] σ 0 0 (xM (QI K)) := by
  unfold F_X12_table_191 at hf
  refine r_aload_n (j := 0) rfl rfl dX12_table_191 ?_
  obtain ⟨fs_x3, x3, ha_x3, hv_x3, hf⟩ := hf
  refine r_get (Cn := RX12) (Tt := TX12) (N := 42) (n := 13) rfl uw_X12 (Nat.le_of_ble_eq_true rfl) wd_6_199 ha_x3 hv_x3 dX12_table_192 ?_
  refine r_ifeqZ (b := x3) (tgt := 219) (by decide) dX12_table_195 (fun hc => ?_) (fun hc => ?_)
  · replace hf := hf.1 hc
    refine r_aload_n (j := 0) rfl rfl dX12_table_219 ?_
    obtain ⟨fs_x4, x4, ha_x4, hv_x4, hf⟩ := hf
    refine r_get (Cn := RX12) (Tt := TX12) (N := 42) (n := 16) rfl uw_X12 (Nat.le_of_ble_eq_true rfl) wd_6_202 ha_x4 hv_x4 dX12_table_220 ?_
    refine r_iconst (v := 0) (by decide) dX12_table_223 ?_
    refine r_aload_n (j := 0) rfl rfl dX12_table_224 ?_
    obtain ⟨fs_x5, x5, ha_x5, hv_x5, hf⟩ := hf
    refine r_get (Cn := RX12) (Tt := TX12) (N := 42) (n := 15) rfl uw_X12 (Nat.le_of_ble_eq_true rfl) wd_6_201 ha_x5 hv_x5 dX12_table_225 ?_
    refine r_iconst (v := 0) (by decide) dX12_table_228 ?_
    refine r_bipush (v := 100) (by decide) dX12_table_229 ?_
    try unfold C_X12_copy at hf
    refine r_invSU (As := [aR (some x4), aI 0, aR (some x5), aI 0, aI 100]) (dz := d) (mz := 0) (sz := 0) rfl wd_7_230 wd_7_231 cf_X12_copy (Nat.le_refl _) (Nat.zero_le _) (Nat.zero_le _) (cat_ok (Nat.le_of_ble_eq_true rfl)) dX12_table_231 hf (fun σ6 hk => ?_)
    replace hf := hk
    clear hk
    refine r_aload_n (j := 0) rfl rfl dX12_table_234 ?_
    obtain ⟨fs_x8, x8, ha_x8, hv_x8, hf⟩ := hf
    refine r_get (Cn := RX12) (Tt := TX12) (N := 42) (n := 18) rfl uw_X12 (Nat.le_of_ble_eq_true rfl) wd_6_204 ha_x8 hv_x8 dX12_table_235 ?_
    refine r_iconst (v := 0) (by decide) dX12_table_238 ?_
    refine r_aload_n (j := 0) rfl rfl dX12_table_239 ?_
    obtain ⟨fs_x9, x9, ha_x9, hv_x9, hf⟩ := hf
    refine r_get (Cn := RX12) (Tt := TX12) (N := 42) (n := 17) rfl uw_X12 (Nat.le_of_ble_eq_true rfl) wd_6_203 ha_x9 hv_x9 dX12_table_240 ?_
    refine r_iconst (v := 0) (by decide) dX12_table_243 ?_
    refine r_bipush (v := 16) (by decide) dX12_table_244 ?_
    try unfold C_X12_copy at hf
    refine r_invSU (As := [aR (some x8), aI 0, aR (some x9), aI 0, aI 16]) (dz := d) (mz := 0) (sz := 0) rfl wd_7_230 wd_7_231 cf_X12_copy (Nat.le_refl _) (Nat.zero_le _) (Nat.zero_le _) (cat_ok (Nat.le_of_ble_eq_true rfl)) dX12_table_246 hf (fun σ10 hk => ?_)
    replace hf := hk
    clear hk
    refine r_aload_n (j := 0) rfl rfl dX12_table_249 ?_
    refine r_iconst (v := 1) (by decide) dX12_table_250 ?_
    obtain ⟨fs_x13, ha_x13, hf⟩ := hf
    generalize hσ12 : hset σ10 v0 (.inl (12, fs_x13.set 14 (aI (bi true)))) = σ12 at hf
    refine r_put (Cn := RX12) (Tt := TX12) (N := 42) (n := 14) (v := aI (bi true)) rfl uw_X12 (Nat.le_of_ble_eq_true rfl) wd_6_200 ha_x13 (ty0 := tyX12) tyX12_ok nmX12 rfl (fo_Z true) dX12_table_251 ?_
    rw [hσ12]
    refine r_aload_n (j := 0) rfl rfl dX12_table_254 ?_
    refine r_iconst (v := 0) (by decide) dX12_table_255 ?_
    obtain ⟨fs_x15, ha_x15, hf⟩ := hf
    generalize hσ14 : hset σ12 v0 (.inl (12, fs_x15.set 21 (aI 0))) = σ14 at hf
    refine r_put (Cn := RX12) (Tt := TX12) (N := 42) (n := 21) (v := aI 0) rfl uw_X12 (Nat.le_of_ble_eq_true rfl) wd_6_207 ha_x15 (ty0 := tyX12) tyX12_ok nmX12 rfl (fo_I 0) dX12_table_256 ?_
    rw [hσ14]
    refine r_aload_n (j := 0) rfl rfl dX12_table_259 ?_
    refine r_iconst (v := 0) (by decide) dX12_table_260 ?_
    obtain ⟨fs_x17, ha_x17, hf⟩ := hf
    generalize hσ16 : hset σ14 v0 (.inl (12, fs_x17.set 22 (aI 0))) = σ16 at hf
    refine r_put (Cn := RX12) (Tt := TX12) (N := 42) (n := 22) (v := aI 0) rfl uw_X12 (Nat.le_of_ble_eq_true rfl) wd_6_208 ha_x17 (ty0 := tyX12) tyX12_ok nmX12 rfl (fo_I 0) dX12_table_261 ?_
    rw [hσ16]
    refine r_aload_n (j := 0) rfl rfl dX12_table_264 ?_
    refine r_aload_n (j := 0) rfl rfl dX12_table_265 ?_
    obtain ⟨fs_x18, x18, ha_x18, hv_x18, hf⟩ := hf
    refine r_get (Cn := RX12) (Tt := TX12) (N := 42) (n := 15) rfl uw_X12 (Nat.le_of_ble_eq_true rfl) wd_6_201 ha_x18 hv_x18 dX12_table_266 ?_
    try unfold C_X12_layLays at hf
    obtain ⟨⟨fs_r20, ha_r20⟩, hf⟩ := hf
    refine r_invVU (t := 12) (As := [aR (some x18)]) (dz := d) (mz := 0) (sz := 0) rfl wd_7_199 wd_7_201 wd_p_70 cf_X12_layLays (Nat.le_refl _) (Nat.zero_le _) (Nat.zero_le _) (cat_ok (Nat.le_of_ble_eq_true rfl)) rfl rfl ha_r20 dX12_table_269 hf (fun σ19 hk => ?_)
    replace hf := hk
    clear hk
    refine r_aload_n (j := 0) rfl rfl dX12_table_272 ?_
    try unfold C_X12_forget at hf
    obtain ⟨⟨fs_r22, ha_r22⟩, hf⟩ := hf
    refine r_invVU (t := 12) (As := []) (dz := d) (mz := 0) (sz := 0) rfl wd_7_233 wd_7_235 wd_p_74 cf_X12_forget (Nat.le_refl _) (Nat.zero_le _) (Nat.zero_le _) (cat_ok (Nat.le_of_ble_eq_true rfl)) rfl rfl ha_r22 dX12_table_273 hf (fun σ21 hk => ?_)
    replace hf := hk
    clear hk
    refine r_aload_n (j := 0) rfl rfl dX12_table_276 ?_
    obtain ⟨fs_x23, x23, ha_x23, hv_x23, hf⟩ := hf
    refine r_get (Cn := RX12) (Tt := TX12) (N := 42) (n := 30) rfl uw_X12 (Nat.le_of_ble_eq_true rfl) wd_6_216 ha_x23 hv_x23 dX12_table_277 ?_
    exact r_ireturn rfl dX12_table_280 rfl ⟨_, rfl, hf⟩
  · replace hf := hf.2 hc
    refine r_aload_n (j := 0) rfl rfl dX12_table_198 ?_
    obtain ⟨fs_x24, x24, ha_x24, hv_x24, hf⟩ := hf
    refine r_get (Cn := RX12) (Tt := TX12) (N := 42) (n := 14) rfl uw_X12 (Nat.le_of_ble_eq_true rfl) wd_6_200 ha_x24 hv_x24 dX12_table_199 ?_
    refine r_ifeqZ (b := x24) (tgt := 213) (by decide) dX12_table_202 (fun hc => ?_) (fun hc => ?_)
    · replace hf := hf.1 hc
      exact r_sub [0] rfl (b_X12_table_213 hf)
    · replace hf := hf.2 hc
      refine r_aload_n (j := 0) rfl rfl dX12_table_205 ?_
      refine r_aload_n (j := 0) rfl rfl dX12_table_206 ?_
      obtain ⟨fs_x25, x25, ha_x25, hv_x25, hf⟩ := hf
      refine r_get (Cn := RX12) (Tt := TX12) (N := 42) (n := 15) rfl uw_X12 (Nat.le_of_ble_eq_true rfl) wd_6_201 ha_x25 hv_x25 dX12_table_207 ?_
      try unfold C_X12_layLays at hf
      obtain ⟨⟨fs_r27, ha_r27⟩, hf⟩ := hf
      refine r_invVU (t := 12) (As := [aR (some x25)]) (dz := d) (mz := 0) (sz := 0) rfl wd_7_199 wd_7_201 wd_p_70 cf_X12_layLays (Nat.le_refl _) (Nat.zero_le _) (Nat.zero_le _) (cat_ok (Nat.le_of_ble_eq_true rfl)) rfl rfl ha_r27 dX12_table_210 hf (fun σ26 hk => ?_)
      replace hf := hk
      clear hk
      exact r_sub [0] rfl (b_X12_table_213 hf)
def F_X12_table_181 (l : Launch) (G : GG) (d : Nat) (v0 : Nat) (σ : Hp) (K : Int32 → Hp → Prop) : Prop :=
  fI σ v0 12 4 fun x28 =>
  C_X12_wrong l G d v0 6 x28 σ fun σ29 =>
  F_X12_table_191 l G d v0 σ29 K
set_option maxRecDepth 100000 in
set_option maxHeartbeats 4000000 in
theorem b_X12_table_181 {l : Launch} {G : GG} {d : Nat} {v0 : Nat} {σ : Hp} {K : Int32 → Hp → Prop} (hf : F_X12_table_181 l G d v0 σ K) : Wd l G (d + 1) "CoinsLaidModel" yX12_table cX12_table 3 (some FieldType.int) 181 [(0, aR (some v0))] [] σ 0 0 (xM (QI K)) := by
  unfold F_X12_table_181 at hf
  refine r_aload_n (j := 0) rfl rfl dX12_table_181 ?_
  refine r_bipush (v := 6) (by decide) dX12_table_182 ?_
  refine r_aload_n (j := 0) rfl rfl dX12_table_184 ?_
  obtain ⟨fs_x28, x28, ha_x28, hv_x28, hf⟩ := hf
  refine r_get (Cn := RX12) (Tt := TX12) (N := 42) (n := 4) rfl uw_X12 (Nat.le_of_ble_eq_true rfl) wd_6_190 ha_x28 hv_x28 dX12_table_185 ?_
  try unfold C_X12_wrong at hf
  obtain ⟨⟨fs_r30, ha_r30⟩, hf⟩ := hf
  refine r_invVU (t := 12) (As := [aI 6, aI x28]) (dz := d) (mz := 0) (sz := 0) rfl wd_7_125 wd_7_127 wd_p_56 cf_X12_wrong (Nat.le_refl _) (Nat.zero_le _) (Nat.zero_le _) (cat_ok (Nat.le_of_ble_eq_true rfl)) rfl rfl ha_r30 dX12_table_188 hf (fun σ29 hk => ?_)
  replace hf := hk
  clear hk
  exact r_sub [0] rfl (b_X12_table_191 hf)
def F_X12_table_147 (l : Launch) (G : GG) (d : Nat) (v0 : Nat) (σ : Hp) (K : Int32 → Hp → Prop) : Prop :=
  fZ σ v0 12 13 fun x31 =>
  (x31 = true →
    F_X12_table_191 l G d v0 σ K) ∧
  (x31 = false →
    fN σ v0 12 16 fun x32 =>
    gI σ x32 0 fun x33 =>
    ((x33 : Int32) = 0 →
      F_X12_table_181 l G d v0 σ K) ∧
    (¬ (x33 : Int32) = 0 →
      fN σ v0 12 16 fun x34 =>
      gI σ x34 3 fun x35 =>
      ((x35 : Int32) = 0 →
        F_X12_table_181 l G d v0 σ K) ∧
      (¬ (x35 : Int32) = 0 →
        fN σ v0 12 16 fun x36 =>
        gI σ x36 4 fun x37 =>
        (¬ (x37 : Int32) = 0 →
          F_X12_table_191 l G d v0 σ K) ∧
        ((x37 : Int32) = 0 →
          F_X12_table_181 l G d v0 σ K))))
set_option maxRecDepth 100000 in
set_option maxHeartbeats 4000000 in
theorem b_X12_table_147 {l : Launch} {G : GG} {d : Nat} {v0 : Nat} {σ : Hp} {K : Int32 → Hp → Prop} (hf : F_X12_table_147 l G d v0 σ K) : Wd l G (d + 1) "CoinsLaidModel" yX12_table cX12_table 3 (some FieldType.int) 147 [(0, aR (some v0))] [] σ 0 0 (xM (QI K)) := by
  unfold F_X12_table_147 at hf
  refine r_aload_n (j := 0) rfl rfl dX12_table_147 ?_
  obtain ⟨fs_x31, x31, ha_x31, hv_x31, hf⟩ := hf
  refine r_get (Cn := RX12) (Tt := TX12) (N := 42) (n := 13) rfl uw_X12 (Nat.le_of_ble_eq_true rfl) wd_6_199 ha_x31 hv_x31 dX12_table_148 ?_
  refine r_ifneZ (b := x31) (tgt := 191) (by decide) dX12_table_151 (fun hc => ?_) (fun hc => ?_)
  · replace hf := hf.1 hc
    exact r_sub [0] rfl (b_X12_table_191 hf)
  · replace hf := hf.2 hc
    refine r_aload_n (j := 0) rfl rfl dX12_table_154 ?_
    obtain ⟨fs_x32, x32, ha_x32, hv_x32, hf⟩ := hf
    refine r_get (Cn := RX12) (Tt := TX12) (N := 42) (n := 16) rfl uw_X12 (Nat.le_of_ble_eq_true rfl) wd_6_202 ha_x32 hv_x32 dX12_table_155 ?_
    refine r_iconst (v := 0) (by decide) dX12_table_158 ?_
    obtain ⟨N_x33, f_x33, ha_x33, hi_x33, hf⟩ := hf
    refine r_iald ha_x33 hi_x33 dX12_table_159 ?_
    generalize f_x33 (0 : Int32).toNatClampNeg = x33 at hf ⊢
    refine r_ifeq (x := x33) (tgt := 181) (by decide) dX12_table_160 (fun hc => ?_) (fun hc => ?_)
    · replace hf := hf.1 hc
      exact r_sub [0] rfl (b_X12_table_181 hf)
    · replace hf := hf.2 hc
      refine r_aload_n (j := 0) rfl rfl dX12_table_163 ?_
      obtain ⟨fs_x34, x34, ha_x34, hv_x34, hf⟩ := hf
      refine r_get (Cn := RX12) (Tt := TX12) (N := 42) (n := 16) rfl uw_X12 (Nat.le_of_ble_eq_true rfl) wd_6_202 ha_x34 hv_x34 dX12_table_164 ?_
      refine r_iconst (v := 3) (by decide) dX12_table_167 ?_
      obtain ⟨N_x35, f_x35, ha_x35, hi_x35, hf⟩ := hf
      refine r_iald ha_x35 hi_x35 dX12_table_168 ?_
      generalize f_x35 (3 : Int32).toNatClampNeg = x35 at hf ⊢
      refine r_ifeq (x := x35) (tgt := 181) (by decide) dX12_table_169 (fun hc => ?_) (fun hc => ?_)
      · replace hf := hf.1 hc
        exact r_sub [0] rfl (b_X12_table_181 hf)
      · replace hf := hf.2 hc
        refine r_aload_n (j := 0) rfl rfl dX12_table_172 ?_
        obtain ⟨fs_x36, x36, ha_x36, hv_x36, hf⟩ := hf
        refine r_get (Cn := RX12) (Tt := TX12) (N := 42) (n := 16) rfl uw_X12 (Nat.le_of_ble_eq_true rfl) wd_6_202 ha_x36 hv_x36 dX12_table_173 ?_
        refine r_iconst (v := 4) (by decide) dX12_table_176 ?_
        obtain ⟨N_x37, f_x37, ha_x37, hi_x37, hf⟩ := hf
        refine r_iald ha_x37 hi_x37 dX12_table_177 ?_
        generalize f_x37 (4 : Int32).toNatClampNeg = x37 at hf ⊢
        refine r_ifne (x := x37) (tgt := 191) (by decide) dX12_table_178 (fun hc => ?_) (fun hc => ?_)
        · replace hf := hf.1 hc
          exact r_sub [0] rfl (b_X12_table_191 hf)
        · replace hf := hf.2 hc
          exact r_sub [0] rfl (b_X12_table_181 hf)
def F_X12_table_124 (l : Launch) (G : GG) (d : Nat) (v0 : Nat) (σ : Hp) (K : Int32 → Hp → Prop) : Prop :=
  fZ σ v0 12 13 fun x38 =>
  (x38 = true →
    F_X12_table_147 l G d v0 σ K) ∧
  (x38 = false →
    fI σ v0 12 6 fun x39 =>
    ((x39 : Int32) = 0 →
      F_X12_table_147 l G d v0 σ K) ∧
    (¬ (x39 : Int32) = 0 →
      fI σ v0 12 4 fun x40 =>
      C_X12_wrong l G d v0 1 x40 σ fun σ41 =>
      F_X12_table_147 l G d v0 σ41 K))
set_option maxRecDepth 100000 in
set_option maxHeartbeats 4000000 in
theorem b_X12_table_124 {l : Launch} {G : GG} {d : Nat} {v0 : Nat} {σ : Hp} {K : Int32 → Hp → Prop} (hf : F_X12_table_124 l G d v0 σ K) : Wd l G (d + 1) "CoinsLaidModel" yX12_table cX12_table 3 (some FieldType.int) 124 [(0, aR (some v0))] [] σ 0 0 (xM (QI K)) := by
  unfold F_X12_table_124 at hf
  refine r_aload_n (j := 0) rfl rfl dX12_table_124 ?_
  obtain ⟨fs_x38, x38, ha_x38, hv_x38, hf⟩ := hf
  refine r_get (Cn := RX12) (Tt := TX12) (N := 42) (n := 13) rfl uw_X12 (Nat.le_of_ble_eq_true rfl) wd_6_199 ha_x38 hv_x38 dX12_table_125 ?_
  refine r_ifneZ (b := x38) (tgt := 147) (by decide) dX12_table_128 (fun hc => ?_) (fun hc => ?_)
  · replace hf := hf.1 hc
    exact r_sub [0] rfl (b_X12_table_147 hf)
  · replace hf := hf.2 hc
    refine r_aload_n (j := 0) rfl rfl dX12_table_131 ?_
    obtain ⟨fs_x39, x39, ha_x39, hv_x39, hf⟩ := hf
    refine r_get (Cn := RX12) (Tt := TX12) (N := 42) (n := 6) rfl uw_X12 (Nat.le_of_ble_eq_true rfl) wd_6_192 ha_x39 hv_x39 dX12_table_132 ?_
    refine r_ifeq (x := x39) (tgt := 147) (by decide) dX12_table_135 (fun hc => ?_) (fun hc => ?_)
    · replace hf := hf.1 hc
      exact r_sub [0] rfl (b_X12_table_147 hf)
    · replace hf := hf.2 hc
      refine r_aload_n (j := 0) rfl rfl dX12_table_138 ?_
      refine r_iconst (v := 1) (by decide) dX12_table_139 ?_
      refine r_aload_n (j := 0) rfl rfl dX12_table_140 ?_
      obtain ⟨fs_x40, x40, ha_x40, hv_x40, hf⟩ := hf
      refine r_get (Cn := RX12) (Tt := TX12) (N := 42) (n := 4) rfl uw_X12 (Nat.le_of_ble_eq_true rfl) wd_6_190 ha_x40 hv_x40 dX12_table_141 ?_
      try unfold C_X12_wrong at hf
      obtain ⟨⟨fs_r42, ha_r42⟩, hf⟩ := hf
      refine r_invVU (t := 12) (As := [aI 1, aI x40]) (dz := d) (mz := 0) (sz := 0) rfl wd_7_125 wd_7_127 wd_p_56 cf_X12_wrong (Nat.le_refl _) (Nat.zero_le _) (Nat.zero_le _) (cat_ok (Nat.le_of_ble_eq_true rfl)) rfl rfl ha_r42 dX12_table_144 hf (fun σ41 hk => ?_)
      replace hf := hk
      clear hk
      exact r_sub [0] rfl (b_X12_table_147 hf)
def F_X12_table_97 (l : Launch) (G : GG) (d : Nat) (X97 : Nat → Hp → Prop) (v0 : Nat) (σ : Hp) (K : Int32 → Hp → Prop) : Prop :=
  fZ σ v0 12 13 fun x43 =>
  (x43 = true →
    F_X12_table_124 l G d v0 σ K) ∧
  (x43 = false →
    fI σ v0 12 6 fun x44 =>
    (¬ (x44 : Int32) = (59 : Int32) →
      F_X12_table_124 l G d v0 σ K) ∧
    ((x44 : Int32) = (59 : Int32) →
      C_X12_next l G d v0 σ fun σ45 =>
      C_X12_readLine l G d v0 σ45 fun σ47 =>
      X97 v0 σ47))
set_option maxRecDepth 100000 in
set_option maxHeartbeats 4000000 in
theorem b_X12_table_97 {l : Launch} {G : GG} {d : Nat} {X97 : Nat → Hp → Prop} {v0 : Nat} {σ : Hp} {K : Int32 → Hp → Prop} (hX97 : ∀ v0 σ, X97 v0 σ → Wd l G (d + 1) "CoinsLaidModel" yX12_table cX12_table 3 (some FieldType.int) 97 [(0, aR (some v0))] [] σ 0 0 (xM (QI K))) (hf : F_X12_table_97 l G d X97 v0 σ K) : Wd l G (d + 1) "CoinsLaidModel" yX12_table cX12_table 3 (some FieldType.int) 97 [(0, aR (some v0))] [] σ 0 0 (xM (QI K)) := by
  unfold F_X12_table_97 at hf
  refine r_aload_n (j := 0) rfl rfl dX12_table_97 ?_
  obtain ⟨fs_x43, x43, ha_x43, hv_x43, hf⟩ := hf
  refine r_get (Cn := RX12) (Tt := TX12) (N := 42) (n := 13) rfl uw_X12 (Nat.le_of_ble_eq_true rfl) wd_6_199 ha_x43 hv_x43 dX12_table_98 ?_
  refine r_ifneZ (b := x43) (tgt := 124) (by decide) dX12_table_101 (fun hc => ?_) (fun hc => ?_)
  · replace hf := hf.1 hc
    exact r_sub [0] rfl (b_X12_table_124 hf)
  · replace hf := hf.2 hc
    refine r_aload_n (j := 0) rfl rfl dX12_table_104 ?_
    obtain ⟨fs_x44, x44, ha_x44, hv_x44, hf⟩ := hf
    refine r_get (Cn := RX12) (Tt := TX12) (N := 42) (n := 6) rfl uw_X12 (Nat.le_of_ble_eq_true rfl) wd_6_192 ha_x44 hv_x44 dX12_table_105 ?_
    refine r_bipush (v := 59) (by decide) dX12_table_108 ?_
    refine r_icmpne (x := x44) (y := 59) (tgt := 124) (by decide) dX12_table_110 (fun hc => ?_) (fun hc => ?_)
    · replace hf := hf.1 hc
      exact r_sub [0] rfl (b_X12_table_124 hf)
    · replace hf := hf.2 hc
      refine r_aload_n (j := 0) rfl rfl dX12_table_113 ?_
      try unfold C_X12_next at hf
      obtain ⟨⟨fs_r46, ha_r46⟩, hf⟩ := hf
      refine r_invVU (t := 12) (As := []) (dz := d) (mz := 0) (sz := 0) rfl wd_7_96 wd_7_98 wd_p_51 cf_X12_next (Nat.le_refl _) (Nat.zero_le _) (Nat.zero_le _) (cat_ok (Nat.le_of_ble_eq_true rfl)) rfl rfl ha_r46 dX12_table_114 hf (fun σ45 hk => ?_)
      replace hf := hk
      clear hk
      refine r_aload_n (j := 0) rfl rfl dX12_table_117 ?_
      try unfold C_X12_readLine at hf
      obtain ⟨⟨fs_r48, ha_r48⟩, hf⟩ := hf
      refine r_invVU (t := 12) (As := []) (dz := d) (mz := 0) (sz := 0) rfl wd_7_110 wd_7_112 wd_p_53 cf_X12_readLine (Nat.le_refl _) (Nat.zero_le _) (Nat.zero_le _) (cat_ok (Nat.le_of_ble_eq_true rfl)) rfl rfl ha_r48 dX12_table_118 hf (fun σ47 hk => ?_)
      replace hf := hk
      clear hk
      refine r_goto (tgt := 97) (by decide) dX12_table_121 ?_
      exact r_sub [0] rfl (hX97 _ _ hf)
def Z_X12_table_97 (l : Launch) (G : GG) (d : Nat) (K : Int32 → Hp → Prop) : Nat → Nat → Hp → Prop
  | 0 => fun _ _ => False
  | n + 1 => fun v0 σ => F_X12_table_97 l G d (Z_X12_table_97 l G d K n) v0 σ K
theorem z_X12_table_97 {l : Launch} {G : GG} {d : Nat} {K : Int32 → Hp → Prop} : ∀ (n : Nat) v0 σ, Z_X12_table_97 l G d K n v0 σ → Wd l G (d + 1) "CoinsLaidModel" yX12_table cX12_table 3 (some FieldType.int) 97 [(0, aR (some v0))] [] σ 0 0 (xM (QI K)) := by
  intro n
  induction n with
  | zero => intro v0 σ hf; exact hf.elim
  | succ n ih => intro v0 σ hf; exact b_X12_table_97 ih hf
def F_X12_table_60 (l : Launch) (G : GG) (d : Nat) (X60 : Nat → Int32 → Int32 → Hp → Prop) (v0 : Nat) (v1 : Int32) (v2 : Int32) (σ : Hp) (K : Int32 → Hp → Prop) : Prop :=
  ((16 : Int32) ≤ (v2 : Int32) →
    pF σ v0 12 3 (aI v1) fun σ49 =>
    pF σ49 v0 12 5 (aI 0) fun σ51 =>
    C_X12_next l G d v0 σ51 fun σ53 =>
    C_X12_readLine l G d v0 σ53 fun σ55 =>
    ∃ n, Z_X12_table_97 l G d K n v0 σ55) ∧
  (¬ (16 : Int32) ≤ (v2 : Int32) →
    fN σ v0 12 18 fun x57 =>
    sI σ x57 v2 0 fun σ58 =>
    X60 v0 v1 (v2 + 1) σ58)
set_option maxRecDepth 100000 in
set_option maxHeartbeats 4000000 in
theorem b_X12_table_60 {l : Launch} {G : GG} {d : Nat} {X60 : Nat → Int32 → Int32 → Hp → Prop} {v0 : Nat} {v1 : Int32} {v2 : Int32} {σ : Hp} {K : Int32 → Hp → Prop} (hX60 : ∀ v0 v1 v2 σ, X60 v0 v1 v2 σ → Wd l G (d + 1) "CoinsLaidModel" yX12_table cX12_table 3 (some FieldType.int) 60 [(0, aR (some v0)), (1, aI v1), (2, aI v2)] [] σ 0 0 (xM (QI K))) (hf : F_X12_table_60 l G d X60 v0 v1 v2 σ K) : Wd l G (d + 1) "CoinsLaidModel" yX12_table cX12_table 3 (some FieldType.int) 60 [(0, aR (some v0)), (1, aI v1), (2, aI v2)] [] σ 0 0 (xM (QI K)) := by
  unfold F_X12_table_60 at hf
  refine r_iload_n (j := 2) rfl rfl dX12_table_60 ?_
  refine r_bipush (v := 16) (by decide) dX12_table_61 ?_
  refine r_icmpge (x := v2) (y := 16) (tgt := 79) (by decide) dX12_table_63 (fun hc => ?_) (fun hc => ?_)
  · replace hf := hf.1 hc
    refine r_aload_n (j := 0) rfl rfl dX12_table_79 ?_
    refine r_iload_n (j := 1) rfl rfl dX12_table_80 ?_
    obtain ⟨fs_x50, ha_x50, hf⟩ := hf
    generalize hσ49 : hset σ v0 (.inl (12, fs_x50.set 3 (aI v1))) = σ49 at hf
    refine r_put (Cn := RX12) (Tt := TX12) (N := 42) (n := 3) (v := aI v1) rfl uw_X12 (Nat.le_of_ble_eq_true rfl) wd_6_189 ha_x50 (ty0 := tyX12) tyX12_ok nmX12 rfl (fo_I v1) dX12_table_81 ?_
    rw [hσ49]
    refine r_aload_n (j := 0) rfl rfl dX12_table_84 ?_
    refine r_iconst (v := 0) (by decide) dX12_table_85 ?_
    obtain ⟨fs_x52, ha_x52, hf⟩ := hf
    generalize hσ51 : hset σ49 v0 (.inl (12, fs_x52.set 5 (aI 0))) = σ51 at hf
    refine r_put (Cn := RX12) (Tt := TX12) (N := 42) (n := 5) (v := aI 0) rfl uw_X12 (Nat.le_of_ble_eq_true rfl) wd_6_191 ha_x52 (ty0 := tyX12) tyX12_ok nmX12 rfl (fo_I 0) dX12_table_86 ?_
    rw [hσ51]
    refine r_aload_n (j := 0) rfl rfl dX12_table_89 ?_
    try unfold C_X12_next at hf
    obtain ⟨⟨fs_r54, ha_r54⟩, hf⟩ := hf
    refine r_invVU (t := 12) (As := []) (dz := d) (mz := 0) (sz := 0) rfl wd_7_96 wd_7_98 wd_p_51 cf_X12_next (Nat.le_refl _) (Nat.zero_le _) (Nat.zero_le _) (cat_ok (Nat.le_of_ble_eq_true rfl)) rfl rfl ha_r54 dX12_table_90 hf (fun σ53 hk => ?_)
    replace hf := hk
    clear hk
    refine r_aload_n (j := 0) rfl rfl dX12_table_93 ?_
    try unfold C_X12_readLine at hf
    obtain ⟨⟨fs_r56, ha_r56⟩, hf⟩ := hf
    refine r_invVU (t := 12) (As := []) (dz := d) (mz := 0) (sz := 0) rfl wd_7_110 wd_7_112 wd_p_53 cf_X12_readLine (Nat.le_refl _) (Nat.zero_le _) (Nat.zero_le _) (cat_ok (Nat.le_of_ble_eq_true rfl)) rfl rfl ha_r56 dX12_table_94 hf (fun σ55 hk => ?_)
    replace hf := hk
    clear hk
    obtain ⟨n, hf⟩ := hf
    exact r_sub [0] rfl (z_X12_table_97 n _ _ hf)
  · replace hf := hf.2 hc
    refine r_aload_n (j := 0) rfl rfl dX12_table_66 ?_
    obtain ⟨fs_x57, x57, ha_x57, hv_x57, hf⟩ := hf
    refine r_get (Cn := RX12) (Tt := TX12) (N := 42) (n := 18) rfl uw_X12 (Nat.le_of_ble_eq_true rfl) wd_6_204 ha_x57 hv_x57 dX12_table_67 ?_
    refine r_iload_n (j := 2) rfl rfl dX12_table_70 ?_
    refine r_iconst (v := 0) (by decide) dX12_table_71 ?_
    obtain ⟨N_x59, f_x59, ha_x59, hi_x59, hf⟩ := hf
    generalize hσ58 : hset σ x57 (iA N_x59 (up_ f_x59 (v2 : Int32).toNatClampNeg 0)) = σ58 at hf
    refine r_iast (f := f_x59) (x := 0) ha_x59 hi_x59 dX12_table_72 ?_
    refine Eq.mpr (congrArg (fun z => Wd _ _ _ _ _ _ _ _ _ _ _ z _ _ _) hσ58) ?_
    refine r_iinc (j := 2) (w := (v2 + 1)) (L' := [(2, aI (v2 + 1)), (0, aR (some v0)), (1, aI v1)]) rfl (by rfl) rfl (Nat.le_of_ble_eq_true rfl) dX12_table_73 ?_
    refine r_goto (tgt := 60) (by decide) dX12_table_76 ?_
    exact r_sub [1, 2, 0] rfl (hX60 _ _ _ _ hf)
def Z_X12_table_60 (l : Launch) (G : GG) (d : Nat) (K : Int32 → Hp → Prop) : Nat → Nat → Int32 → Int32 → Hp → Prop
  | 0 => fun _ _ _ _ => False
  | n + 1 => fun v0 v1 v2 σ => F_X12_table_60 l G d (Z_X12_table_60 l G d K n) v0 v1 v2 σ K
theorem z_X12_table_60 {l : Launch} {G : GG} {d : Nat} {K : Int32 → Hp → Prop} : ∀ (n : Nat) v0 v1 v2 σ, Z_X12_table_60 l G d K n v0 v1 v2 σ → Wd l G (d + 1) "CoinsLaidModel" yX12_table cX12_table 3 (some FieldType.int) 60 [(0, aR (some v0)), (1, aI v1), (2, aI v2)] [] σ 0 0 (xM (QI K)) := by
  intro n
  induction n with
  | zero => intro v0 v1 v2 σ hf; exact hf.elim
  | succ n ih => intro v0 v1 v2 σ hf; exact b_X12_table_60 ih hf
def F_X12_table_39 (l : Launch) (G : GG) (d : Nat) (X39 : Nat → Int32 → Int32 → Hp → Prop) (v0 : Nat) (v1 : Int32) (v2 : Int32) (σ : Hp) (K : Int32 → Hp → Prop) : Prop :=
  ((100 : Int32) ≤ (v2 : Int32) →
    ∃ n, Z_X12_table_60 l G d K n v0 v1 0 σ) ∧
  (¬ (100 : Int32) ≤ (v2 : Int32) →
    fN σ v0 12 16 fun x60 =>
    sI σ x60 v2 0 fun σ61 =>
    X39 v0 v1 (v2 + 1) σ61)
set_option maxRecDepth 100000 in
set_option maxHeartbeats 4000000 in
theorem b_X12_table_39 {l : Launch} {G : GG} {d : Nat} {X39 : Nat → Int32 → Int32 → Hp → Prop} {v0 : Nat} {v1 : Int32} {v2 : Int32} {σ : Hp} {K : Int32 → Hp → Prop} (hX39 : ∀ v0 v1 v2 σ, X39 v0 v1 v2 σ → Wd l G (d + 1) "CoinsLaidModel" yX12_table cX12_table 3 (some FieldType.int) 39 [(0, aR (some v0)), (1, aI v1), (2, aI v2)] [] σ 0 0 (xM (QI K))) (hf : F_X12_table_39 l G d X39 v0 v1 v2 σ K) : Wd l G (d + 1) "CoinsLaidModel" yX12_table cX12_table 3 (some FieldType.int) 39 [(0, aR (some v0)), (1, aI v1), (2, aI v2)] [] σ 0 0 (xM (QI K)) := by
  unfold F_X12_table_39 at hf
  refine r_iload_n (j := 2) rfl rfl dX12_table_39 ?_
  refine r_bipush (v := 100) (by decide) dX12_table_40 ?_
  refine r_icmpge (x := v2) (y := 100) (tgt := 58) (by decide) dX12_table_42 (fun hc => ?_) (fun hc => ?_)
  · replace hf := hf.1 hc
    refine r_iconst (v := 0) (by decide) dX12_table_58 ?_
    refine r_istore_n (L' := [(2, aI 0), (0, aR (some v0)), (1, aI v1)]) rfl rfl (Nat.le_of_ble_eq_true rfl) dX12_table_59 ?_
    obtain ⟨n, hf⟩ := hf
    exact r_sub [1, 2, 0] rfl (z_X12_table_60 n _ _ _ _ hf)
  · replace hf := hf.2 hc
    refine r_aload_n (j := 0) rfl rfl dX12_table_45 ?_
    obtain ⟨fs_x60, x60, ha_x60, hv_x60, hf⟩ := hf
    refine r_get (Cn := RX12) (Tt := TX12) (N := 42) (n := 16) rfl uw_X12 (Nat.le_of_ble_eq_true rfl) wd_6_202 ha_x60 hv_x60 dX12_table_46 ?_
    refine r_iload_n (j := 2) rfl rfl dX12_table_49 ?_
    refine r_iconst (v := 0) (by decide) dX12_table_50 ?_
    obtain ⟨N_x62, f_x62, ha_x62, hi_x62, hf⟩ := hf
    generalize hσ61 : hset σ x60 (iA N_x62 (up_ f_x62 (v2 : Int32).toNatClampNeg 0)) = σ61 at hf
    refine r_iast (f := f_x62) (x := 0) ha_x62 hi_x62 dX12_table_51 ?_
    refine Eq.mpr (congrArg (fun z => Wd _ _ _ _ _ _ _ _ _ _ _ z _ _ _) hσ61) ?_
    refine r_iinc (j := 2) (w := (v2 + 1)) (L' := [(2, aI (v2 + 1)), (0, aR (some v0)), (1, aI v1)]) rfl (by rfl) rfl (Nat.le_of_ble_eq_true rfl) dX12_table_52 ?_
    refine r_goto (tgt := 39) (by decide) dX12_table_55 ?_
    exact r_sub [1, 2, 0] rfl (hX39 _ _ _ _ hf)
def Z_X12_table_39 (l : Launch) (G : GG) (d : Nat) (K : Int32 → Hp → Prop) : Nat → Nat → Int32 → Int32 → Hp → Prop
  | 0 => fun _ _ _ _ => False
  | n + 1 => fun v0 v1 v2 σ => F_X12_table_39 l G d (Z_X12_table_39 l G d K n) v0 v1 v2 σ K
theorem z_X12_table_39 {l : Launch} {G : GG} {d : Nat} {K : Int32 → Hp → Prop} : ∀ (n : Nat) v0 v1 v2 σ, Z_X12_table_39 l G d K n v0 v1 v2 σ → Wd l G (d + 1) "CoinsLaidModel" yX12_table cX12_table 3 (some FieldType.int) 39 [(0, aR (some v0)), (1, aI v1), (2, aI v2)] [] σ 0 0 (xM (QI K)) := by
  intro n
  induction n with
  | zero => intro v0 v1 v2 σ hf; exact hf.elim
  | succ n ih => intro v0 v1 v2 σ hf; exact b_X12_table_39 ih hf
def F_X12_table (l : Launch) (G : GG) (d : Nat) (v0 : Nat) (v1 : Int32) (σ : Hp) (K : Int32 → Hp → Prop) : Prop :=
  C_X12_clear l G d v0 σ fun σ63 =>
  fI σ63 v0 12 2 fun x65 =>
  C_X12_within l G d v1 0 x65 σ63 fun r67 σ66 =>
  (r67 = true →
    pF σ66 v0 12 2 (aI 0) fun σ68 =>
    pF σ68 v0 12 9 (aI 0) fun σ70 =>
    pF σ70 v0 12 13 (aI (bi false)) fun σ72 =>
    ∃ n, Z_X12_table_39 l G d K n v0 v1 0 σ72) ∧
  (r67 = false →
    C_X12_no l G d v0 2 σ66 fun r75 σ74 =>
    K r75 σ74)
set_option maxRecDepth 100000 in
set_option maxHeartbeats 4000000 in
theorem b_X12_table_0 {l : Launch} {G : GG} {d : Nat} {v0 : Nat} {v1 : Int32} {σ : Hp} {K : Int32 → Hp → Prop} (hf : F_X12_table l G d v0 v1 σ K) : Wd l G (d + 1) "CoinsLaidModel" yX12_table cX12_table 3 (some FieldType.int) 0 [(0, aR (some v0)), (1, aI v1)] [] σ 0 0 (xM (QI K)) := by
  unfold F_X12_table at hf
  refine r_aload_n (j := 0) rfl rfl dX12_table_0 ?_
  try unfold C_X12_clear at hf
  obtain ⟨⟨fs_r64, ha_r64⟩, hf⟩ := hf
  refine r_invVU (t := 12) (As := []) (dz := d) (mz := 0) (sz := 0) rfl wd_7_85 wd_7_87 wd_p_49 cf_X12_clear (Nat.le_refl _) (Nat.zero_le _) (Nat.zero_le _) (cat_ok (Nat.le_of_ble_eq_true rfl)) rfl rfl ha_r64 dX12_table_1 hf (fun σ63 hk => ?_)
  replace hf := hk
  clear hk
  refine r_iload_n (j := 1) rfl rfl dX12_table_4 ?_
  refine r_iconst (v := 0) (by decide) dX12_table_5 ?_
  refine r_aload_n (j := 0) rfl rfl dX12_table_6 ?_
  obtain ⟨fs_x65, x65, ha_x65, hv_x65, hf⟩ := hf
  refine r_get (Cn := RX12) (Tt := TX12) (N := 42) (n := 2) rfl uw_X12 (Nat.le_of_ble_eq_true rfl) wd_6_188 ha_x65 hv_x65 dX12_table_7 ?_
  try unfold C_X12_within at hf
  refine r_invSZ (As := [aI v1, aI 0, aI x65]) (dz := d) (mz := 0) (sz := 0) rfl wd_7_89 wd_7_90 cf_X12_within (Nat.le_refl _) (Nat.zero_le _) (Nat.zero_le _) (cat_ok (Nat.le_of_ble_eq_true rfl)) dX12_table_10 hf (fun r67 σ66 hk => ?_)
  replace hf := hk
  clear hk
  refine r_ifneZ (b := r67) (tgt := 22) (by decide) dX12_table_13 (fun hc => ?_) (fun hc => ?_)
  · replace hf := hf.1 hc
    refine r_aload_n (j := 0) rfl rfl dX12_table_22 ?_
    refine r_iconst (v := 0) (by decide) dX12_table_23 ?_
    obtain ⟨fs_x69, ha_x69, hf⟩ := hf
    generalize hσ68 : hset σ66 v0 (.inl (12, fs_x69.set 2 (aI 0))) = σ68 at hf
    refine r_put (Cn := RX12) (Tt := TX12) (N := 42) (n := 2) (v := aI 0) rfl uw_X12 (Nat.le_of_ble_eq_true rfl) wd_6_188 ha_x69 (ty0 := tyX12) tyX12_ok nmX12 rfl (fo_I 0) dX12_table_24 ?_
    rw [hσ68]
    refine r_aload_n (j := 0) rfl rfl dX12_table_27 ?_
    refine r_iconst (v := 0) (by decide) dX12_table_28 ?_
    obtain ⟨fs_x71, ha_x71, hf⟩ := hf
    generalize hσ70 : hset σ68 v0 (.inl (12, fs_x71.set 9 (aI 0))) = σ70 at hf
    refine r_put (Cn := RX12) (Tt := TX12) (N := 42) (n := 9) (v := aI 0) rfl uw_X12 (Nat.le_of_ble_eq_true rfl) wd_6_195 ha_x71 (ty0 := tyX12) tyX12_ok nmX12 rfl (fo_I 0) dX12_table_29 ?_
    rw [hσ70]
    refine r_aload_n (j := 0) rfl rfl dX12_table_32 ?_
    refine r_iconst (v := 0) (by decide) dX12_table_33 ?_
    obtain ⟨fs_x73, ha_x73, hf⟩ := hf
    generalize hσ72 : hset σ70 v0 (.inl (12, fs_x73.set 13 (aI (bi false)))) = σ72 at hf
    refine r_put (Cn := RX12) (Tt := TX12) (N := 42) (n := 13) (v := aI (bi false)) rfl uw_X12 (Nat.le_of_ble_eq_true rfl) wd_6_199 ha_x73 (ty0 := tyX12) tyX12_ok nmX12 rfl (fo_Z false) dX12_table_34 ?_
    rw [hσ72]
    refine r_iconst (v := 0) (by decide) dX12_table_37 ?_
    refine r_istore_n (L' := [(2, aI 0), (0, aR (some v0)), (1, aI v1)]) rfl rfl (Nat.le_of_ble_eq_true rfl) dX12_table_38 ?_
    obtain ⟨n, hf⟩ := hf
    exact r_sub [1, 2, 0] rfl (z_X12_table_39 n _ _ _ _ hf)
  · replace hf := hf.2 hc
    refine r_aload_n (j := 0) rfl rfl dX12_table_16 ?_
    refine r_iconst (v := 2) (by decide) dX12_table_17 ?_
    try unfold C_X12_no at hf
    obtain ⟨⟨fs_r75, ha_r75⟩, hf⟩ := hf
    refine r_invVI (t := 12) (As := [aI 2]) (dz := d) (mz := 0) (sz := 0) rfl wd_7_92 wd_7_94 wd_p_50 cf_X12_no (Nat.le_refl _) (Nat.zero_le _) (Nat.zero_le _) (cat_ok (Nat.le_of_ble_eq_true rfl)) rfl rfl ha_r75 dX12_table_18 hf (fun r75 σ74 hk => ?_)
    replace hf := hk
    clear hk
    exact r_ireturn rfl dX12_table_21 rfl ⟨_, rfl, hf⟩
theorem m_X12_table {l : Launch} {G : GG} {d : Nat} {v0 : Nat} {v1 : Int32} {σ : Hp} {K : Int32 → Hp → Prop} (hr : rv σ v0 12) (hf : F_X12_table l G d v0 v1 σ K) : C_X12_table l G (d + 1) v0 v1 σ K := ⟨hr, Sp.of (by decide) (Nat.le_of_ble_eq_true rfl) (b_X12_table_0 hf) rfl⟩
def F_X12_begins_49 (l : Launch) (G : GG) (d : Nat) (σ : Hp) (K : Bool → Hp → Prop) : Prop :=
  K true σ
set_option maxRecDepth 100000 in
set_option maxHeartbeats 4000000 in
theorem b_X12_begins_49 {l : Launch} {G : GG} {d : Nat} {σ : Hp} {K : Bool → Hp → Prop} (hf : F_X12_begins_49 l G d  σ K) : Wd l G (d + 1) "CoinsLaidModel" yX12_begins cX12_begins 5 (some FieldType.boolean) 49 [] [] σ 0 0 (xM (QZ K)) := by
  unfold F_X12_begins_49 at hf
  refine r_iconst (v := 1) (by decide) dX12_begins_49 ?_
  exact r_zreturn (b := true) rfl dX12_begins_50 rfl ⟨_, rfl, hf⟩
def F_X12_begins_38 (l : Launch) (G : GG) (d : Nat) (v0 : Nat) (σ : Hp) (K : Bool → Hp → Prop) : Prop :=
  fZ σ v0 12 13 fun x1 =>
  (x1 = true →
    F_X12_begins_49 l G d σ K) ∧
  (x1 = false →
    C_X12_next l G d v0 σ fun σ2 =>
    F_X12_begins_49 l G d σ2 K)
set_option maxRecDepth 100000 in
set_option maxHeartbeats 4000000 in
theorem b_X12_begins_38 {l : Launch} {G : GG} {d : Nat} {v0 : Nat} {σ : Hp} {K : Bool → Hp → Prop} (hf : F_X12_begins_38 l G d v0 σ K) : Wd l G (d + 1) "CoinsLaidModel" yX12_begins cX12_begins 5 (some FieldType.boolean) 38 [(0, aR (some v0))] [] σ 0 0 (xM (QZ K)) := by
  unfold F_X12_begins_38 at hf
  refine r_aload_n (j := 0) rfl rfl dX12_begins_38 ?_
  obtain ⟨fs_x1, x1, ha_x1, hv_x1, hf⟩ := hf
  refine r_get (Cn := RX12) (Tt := TX12) (N := 42) (n := 13) rfl uw_X12 (Nat.le_of_ble_eq_true rfl) wd_6_199 ha_x1 hv_x1 dX12_begins_39 ?_
  refine r_ifneZ (b := x1) (tgt := 49) (by decide) dX12_begins_42 (fun hc => ?_) (fun hc => ?_)
  · replace hf := hf.1 hc
    exact r_sub [] rfl (b_X12_begins_49 hf)
  · replace hf := hf.2 hc
    refine r_aload_n (j := 0) rfl rfl dX12_begins_45 ?_
    try unfold C_X12_next at hf
    obtain ⟨⟨fs_r3, ha_r3⟩, hf⟩ := hf
    refine r_invVU (t := 12) (As := []) (dz := d) (mz := 0) (sz := 0) rfl wd_7_96 wd_7_98 wd_p_51 cf_X12_next (Nat.le_refl _) (Nat.zero_le _) (Nat.zero_le _) (cat_ok (Nat.le_of_ble_eq_true rfl)) rfl rfl ha_r3 dX12_begins_46 hf (fun σ2 hk => ?_)
    replace hf := hk
    clear hk
    exact r_sub [] rfl (b_X12_begins_49 hf)
def F_X12_begins_24 (l : Launch) (G : GG) (d : Nat) (v0 : Nat) (v3 : Bool) (σ : Hp) (K : Bool → Hp → Prop) : Prop :=
  (v3 = true →
    F_X12_begins_38 l G d v0 σ K) ∧
  (v3 = false →
    fI σ v0 12 4 fun x4 =>
    C_X12_wrong l G d v0 6 x4 σ fun σ5 =>
    F_X12_begins_38 l G d v0 σ5 K)
set_option maxRecDepth 100000 in
set_option maxHeartbeats 4000000 in
theorem b_X12_begins_24 {l : Launch} {G : GG} {d : Nat} {v0 : Nat} {v3 : Bool} {σ : Hp} {K : Bool → Hp → Prop} (hf : F_X12_begins_24 l G d v0 v3 σ K) : Wd l G (d + 1) "CoinsLaidModel" yX12_begins cX12_begins 5 (some FieldType.boolean) 24 [(0, aR (some v0)), (3, aI (bi v3))] [] σ 0 0 (xM (QZ K)) := by
  unfold F_X12_begins_24 at hf
  refine r_iload_n (j := 1) rfl rfl dX12_begins_24 ?_
  refine r_ifneZ (b := v3) (tgt := 38) (by decide) dX12_begins_25 (fun hc => ?_) (fun hc => ?_)
  · replace hf := hf.1 hc
    exact r_sub [0] rfl (b_X12_begins_38 hf)
  · replace hf := hf.2 hc
    refine r_aload_n (j := 0) rfl rfl dX12_begins_28 ?_
    refine r_bipush (v := 6) (by decide) dX12_begins_29 ?_
    refine r_aload_n (j := 0) rfl rfl dX12_begins_31 ?_
    obtain ⟨fs_x4, x4, ha_x4, hv_x4, hf⟩ := hf
    refine r_get (Cn := RX12) (Tt := TX12) (N := 42) (n := 4) rfl uw_X12 (Nat.le_of_ble_eq_true rfl) wd_6_190 ha_x4 hv_x4 dX12_begins_32 ?_
    try unfold C_X12_wrong at hf
    obtain ⟨⟨fs_r6, ha_r6⟩, hf⟩ := hf
    refine r_invVU (t := 12) (As := [aI 6, aI x4]) (dz := d) (mz := 0) (sz := 0) rfl wd_7_125 wd_7_127 wd_p_56 cf_X12_wrong (Nat.le_refl _) (Nat.zero_le _) (Nat.zero_le _) (cat_ok (Nat.le_of_ble_eq_true rfl)) rfl rfl ha_r6 dX12_begins_35 hf (fun σ5 hk => ?_)
    replace hf := hk
    clear hk
    exact r_sub [0] rfl (b_X12_begins_38 hf)
def F_X12_begins (l : Launch) (G : GG) (d : Nat) (v0 : Nat) (v1 : Nat) (v2 : Bool) (v3 : Bool) (v4 : Int32) (σ : Hp) (K : Bool → Hp → Prop) : Prop :=
  C_X12_isWord l G d v0 v1 σ fun r8 σ7 =>
  (r8 = true →
    (v2 = true →
      F_X12_begins_24 l G d v0 v3 σ7 K) ∧
    (v2 = false →
      fI σ7 v0 12 4 fun x9 =>
      C_X12_wrong l G d v0 v4 x9 σ7 fun σ10 =>
      F_X12_begins_24 l G d v0 v3 σ10 K)) ∧
  (r8 = false →
    K false σ7)
set_option maxRecDepth 100000 in
set_option maxHeartbeats 4000000 in
theorem b_X12_begins_0 {l : Launch} {G : GG} {d : Nat} {v0 : Nat} {v1 : Nat} {v2 : Bool} {v3 : Bool} {v4 : Int32} {σ : Hp} {K : Bool → Hp → Prop} (hf : F_X12_begins l G d v0 v1 v2 v3 v4 σ K) : Wd l G (d + 1) "CoinsLaidModel" yX12_begins cX12_begins 5 (some FieldType.boolean) 0 [(0, aR (some v0)), (1, aR (some v1)), (2, aI (bi v2)), (3, aI (bi v3)), (4, aI v4)] [] σ 0 0 (xM (QZ K)) := by
  unfold F_X12_begins at hf
  refine r_aload_n (j := 0) rfl rfl dX12_begins_0 ?_
  refine r_aload_n (j := 1) rfl rfl dX12_begins_1 ?_
  try unfold C_X12_isWord at hf
  obtain ⟨⟨fs_r8, ha_r8⟩, hf⟩ := hf
  refine r_invVZ (t := 12) (As := [aR (some v1)]) (dz := d) (mz := 0) (sz := 0) rfl wd_7_119 wd_7_121 wd_p_55 cf_X12_isWord (Nat.le_refl _) (Nat.zero_le _) (Nat.zero_le _) (cat_ok (Nat.le_of_ble_eq_true rfl)) rfl rfl ha_r8 dX12_begins_2 hf (fun r8 σ7 hk => ?_)
  replace hf := hk
  clear hk
  refine r_ifneZ (b := r8) (tgt := 10) (by decide) dX12_begins_5 (fun hc => ?_) (fun hc => ?_)
  · replace hf := hf.1 hc
    refine r_iload_n (j := 2) rfl rfl dX12_begins_10 ?_
    refine r_ifneZ (b := v2) (tgt := 24) (by decide) dX12_begins_11 (fun hc => ?_) (fun hc => ?_)
    · replace hf := hf.1 hc
      exact r_sub [0, 3] rfl (b_X12_begins_24 hf)
    · replace hf := hf.2 hc
      refine r_aload_n (j := 0) rfl rfl dX12_begins_14 ?_
      refine r_iload (j := 4) rfl dX12_begins_15 ?_
      refine r_aload_n (j := 0) rfl rfl dX12_begins_17 ?_
      obtain ⟨fs_x9, x9, ha_x9, hv_x9, hf⟩ := hf
      refine r_get (Cn := RX12) (Tt := TX12) (N := 42) (n := 4) rfl uw_X12 (Nat.le_of_ble_eq_true rfl) wd_6_190 ha_x9 hv_x9 dX12_begins_18 ?_
      try unfold C_X12_wrong at hf
      obtain ⟨⟨fs_r11, ha_r11⟩, hf⟩ := hf
      refine r_invVU (t := 12) (As := [aI v4, aI x9]) (dz := d) (mz := 0) (sz := 0) rfl wd_7_125 wd_7_127 wd_p_56 cf_X12_wrong (Nat.le_refl _) (Nat.zero_le _) (Nat.zero_le _) (cat_ok (Nat.le_of_ble_eq_true rfl)) rfl rfl ha_r11 dX12_begins_21 hf (fun σ10 hk => ?_)
      replace hf := hk
      clear hk
      exact r_sub [0, 3] rfl (b_X12_begins_24 hf)
  · replace hf := hf.2 hc
    refine r_iconst (v := 0) (by decide) dX12_begins_8 ?_
    exact r_zreturn (b := false) rfl dX12_begins_9 rfl ⟨_, rfl, hf⟩
theorem m_X12_begins {l : Launch} {G : GG} {d : Nat} {v0 : Nat} {v1 : Nat} {v2 : Bool} {v3 : Bool} {v4 : Int32} {σ : Hp} {K : Bool → Hp → Prop} (hr : rv σ v0 12) (hf : F_X12_begins l G d v0 v1 v2 v3 v4 σ K) : C_X12_begins l G (d + 1) v0 v1 v2 v3 v4 σ K := ⟨hr, Sp.of (by decide) (Nat.le_of_ble_eq_true rfl) (b_X12_begins_0 hf) rfl⟩
def F_X12_readLine_189 (l : Launch) (G : GG) (d : Nat) (σ : Hp) (K : Hp → Prop) : Prop :=
  K σ
set_option maxRecDepth 100000 in
set_option maxHeartbeats 4000000 in
theorem b_X12_readLine_189 {l : Launch} {G : GG} {d : Nat} {σ : Hp} {K : Hp → Prop} (hf : F_X12_readLine_189 l G d  σ K) : Wd l G (d + 1) "CoinsLaidModel" yX12_readLine cX12_readLine 2 none 189 [] [] σ 0 0 (xM (QV K)) := by
  unfold F_X12_readLine_189 at hf
  exact r_return rfl dX12_readLine_189 rfl ⟨rfl, hf⟩
def F_X12_readLine_166 (l : Launch) (G : GG) (d : Nat) (v0 : Nat) (s0 : Nat) (s1 : Nat) (s2 : Bool) (s3 : Bool) (σ : Hp) (K : Hp → Prop) : Prop :=
  C_X12_begins l G d s0 s1 s2 s3 5 σ fun r2 σ1 =>
  (r2 = false →
    fI σ1 v0 12 4 fun x3 =>
    C_X12_wrong l G d v0 1 x3 σ1 fun σ4 =>
    F_X12_readLine_189 l G d σ4 K) ∧
  (r2 = true →
    C_X12_layLine l G d v0 σ1 fun σ6 =>
    F_X12_readLine_189 l G d σ6 K)
set_option maxRecDepth 100000 in
set_option maxHeartbeats 4000000 in
theorem b_X12_readLine_166 {l : Launch} {G : GG} {d : Nat} {v0 : Nat} {s0 : Nat} {s1 : Nat} {s2 : Bool} {s3 : Bool} {σ : Hp} {K : Hp → Prop} (hf : F_X12_readLine_166 l G d v0 s0 s1 s2 s3 σ K) : Wd l G (d + 1) "CoinsLaidModel" yX12_readLine cX12_readLine 2 none 166 [(0, aR (some v0))] [aI (bi s3), aI (bi s2), aR (some s1), aR (some s0)] σ 0 0 (xM (QV K)) := by
  unfold F_X12_readLine_166 at hf
  refine r_iconst (v := 5) (by decide) dX12_readLine_166 ?_
  try unfold C_X12_begins at hf
  obtain ⟨⟨fs_r2, ha_r2⟩, hf⟩ := hf
  refine r_invVZ (t := 12) (As := [aR (some s1), aI (bi s2), aI (bi s3), aI 5]) (dz := d) (mz := 0) (sz := 0) rfl wd_7_115 wd_7_117 wd_p_54 cf_X12_begins (Nat.le_refl _) (Nat.zero_le _) (Nat.zero_le _) (cat_ok (Nat.le_of_ble_eq_true rfl)) rfl rfl ha_r2 dX12_readLine_167 hf (fun r2 σ1 hk => ?_)
  replace hf := hk
  clear hk
  refine r_ifeqZ (b := r2) (tgt := 180) (by decide) dX12_readLine_170 (fun hc => ?_) (fun hc => ?_)
  · replace hf := hf.1 hc
    refine r_aload_n (j := 0) rfl rfl dX12_readLine_180 ?_
    refine r_iconst (v := 1) (by decide) dX12_readLine_181 ?_
    refine r_aload_n (j := 0) rfl rfl dX12_readLine_182 ?_
    obtain ⟨fs_x3, x3, ha_x3, hv_x3, hf⟩ := hf
    refine r_get (Cn := RX12) (Tt := TX12) (N := 42) (n := 4) rfl uw_X12 (Nat.le_of_ble_eq_true rfl) wd_6_190 ha_x3 hv_x3 dX12_readLine_183 ?_
    try unfold C_X12_wrong at hf
    obtain ⟨⟨fs_r5, ha_r5⟩, hf⟩ := hf
    refine r_invVU (t := 12) (As := [aI 1, aI x3]) (dz := d) (mz := 0) (sz := 0) rfl wd_7_125 wd_7_127 wd_p_56 cf_X12_wrong (Nat.le_refl _) (Nat.zero_le _) (Nat.zero_le _) (cat_ok (Nat.le_of_ble_eq_true rfl)) rfl rfl ha_r5 dX12_readLine_186 hf (fun σ4 hk => ?_)
    replace hf := hk
    clear hk
    exact r_sub [] rfl (b_X12_readLine_189 hf)
  · replace hf := hf.2 hc
    refine r_aload_n (j := 0) rfl rfl dX12_readLine_173 ?_
    try unfold C_X12_layLine at hf
    obtain ⟨⟨fs_r7, ha_r7⟩, hf⟩ := hf
    refine r_invVU (t := 12) (As := []) (dz := d) (mz := 0) (sz := 0) rfl wd_7_195 wd_7_197 wd_p_69 cf_X12_layLine (Nat.le_refl _) (Nat.zero_le _) (Nat.zero_le _) (cat_ok (Nat.le_of_ble_eq_true rfl)) rfl rfl ha_r7 dX12_readLine_174 hf (fun σ6 hk => ?_)
    replace hf := hk
    clear hk
    refine r_goto (tgt := 189) (by decide) dX12_readLine_177 ?_
    exact r_sub [] rfl (b_X12_readLine_189 hf)
def F_X12_readLine_151 (l : Launch) (G : GG) (d : Nat) (v0 : Nat) (s0 : Nat) (s1 : Nat) (s2 : Bool) (σ : Hp) (K : Hp → Prop) : Prop :=
  fN σ v0 12 16 fun x8 =>
  gI σ x8 0 fun x9 =>
  (¬ (x9 : Int32) = (1 : Int32) →
    F_X12_readLine_166 l G d v0 s0 s1 s2 false σ K) ∧
  ((x9 : Int32) = (1 : Int32) →
    F_X12_readLine_166 l G d v0 s0 s1 s2 true σ K)
set_option maxRecDepth 100000 in
set_option maxHeartbeats 4000000 in
theorem b_X12_readLine_151 {l : Launch} {G : GG} {d : Nat} {v0 : Nat} {s0 : Nat} {s1 : Nat} {s2 : Bool} {σ : Hp} {K : Hp → Prop} (hf : F_X12_readLine_151 l G d v0 s0 s1 s2 σ K) : Wd l G (d + 1) "CoinsLaidModel" yX12_readLine cX12_readLine 2 none 151 [(0, aR (some v0))] [aI (bi s2), aR (some s1), aR (some s0)] σ 0 0 (xM (QV K)) := by
  unfold F_X12_readLine_151 at hf
  refine r_aload_n (j := 0) rfl rfl dX12_readLine_151 ?_
  obtain ⟨fs_x8, x8, ha_x8, hv_x8, hf⟩ := hf
  refine r_get (Cn := RX12) (Tt := TX12) (N := 42) (n := 16) rfl uw_X12 (Nat.le_of_ble_eq_true rfl) wd_6_202 ha_x8 hv_x8 dX12_readLine_152 ?_
  refine r_iconst (v := 0) (by decide) dX12_readLine_155 ?_
  obtain ⟨N_x9, f_x9, ha_x9, hi_x9, hf⟩ := hf
  refine r_iald ha_x9 hi_x9 dX12_readLine_156 ?_
  generalize f_x9 (0 : Int32).toNatClampNeg = x9 at hf ⊢
  refine r_iconst (v := 1) (by decide) dX12_readLine_157 ?_
  refine r_icmpne (x := x9) (y := 1) (tgt := 165) (by decide) dX12_readLine_158 (fun hc => ?_) (fun hc => ?_)
  · replace hf := hf.1 hc
    refine r_iconst (v := 0) (by decide) dX12_readLine_165 ?_
    exact r_sub [0] rfl (b_X12_readLine_166 hf)
  · replace hf := hf.2 hc
    refine r_iconst (v := 1) (by decide) dX12_readLine_161 ?_
    refine r_goto (tgt := 166) (by decide) dX12_readLine_162 ?_
    exact r_sub [0] rfl (b_X12_readLine_166 hf)
def F_X12_readLine_117 (l : Launch) (G : GG) (d : Nat) (v0 : Nat) (v1 : Bool) (s0 : Nat) (s1 : Nat) (s2 : Bool) (σ : Hp) (K : Hp → Prop) : Prop :=
  C_X12_begins l G d s0 s1 s2 v1 5 σ fun r11 σ10 =>
  (r11 = false →
    fN σ10 v0 12 18 fun x12 =>
    gI σ10 x12 0 fun x13 =>
    ((8 : Int32) ≤ (x13 : Int32) →
      F_X12_readLine_151 l G d v0 v0 (gK G 28) false σ10 K) ∧
    (¬ (8 : Int32) ≤ (x13 : Int32) →
      F_X12_readLine_151 l G d v0 v0 (gK G 28) true σ10 K)) ∧
  (r11 = true →
    C_X12_pieceLine l G d v0 σ10 fun σ14 =>
    F_X12_readLine_189 l G d σ14 K)
set_option maxRecDepth 100000 in
set_option maxHeartbeats 4000000 in
theorem b_X12_readLine_117 {l : Launch} {G : GG} {d : Nat} {v0 : Nat} {v1 : Bool} {s0 : Nat} {s1 : Nat} {s2 : Bool} {σ : Hp} {K : Hp → Prop} (hf : F_X12_readLine_117 l G d v0 v1 s0 s1 s2 σ K) : Wd l G (d + 1) "CoinsLaidModel" yX12_readLine cX12_readLine 2 none 117 [(0, aR (some v0)), (1, aI (bi v1))] [aI (bi s2), aR (some s1), aR (some s0)] σ 0 0 (xM (QV K)) := by
  unfold F_X12_readLine_117 at hf
  refine r_iload_n (j := 1) rfl rfl dX12_readLine_117 ?_
  refine r_iconst (v := 5) (by decide) dX12_readLine_118 ?_
  try unfold C_X12_begins at hf
  obtain ⟨⟨fs_r11, ha_r11⟩, hf⟩ := hf
  refine r_invVZ (t := 12) (As := [aR (some s1), aI (bi s2), aI (bi v1), aI 5]) (dz := d) (mz := 0) (sz := 0) rfl wd_7_115 wd_7_117 wd_p_54 cf_X12_begins (Nat.le_refl _) (Nat.zero_le _) (Nat.zero_le _) (cat_ok (Nat.le_of_ble_eq_true rfl)) rfl rfl ha_r11 dX12_readLine_119 hf (fun r11 σ10 hk => ?_)
  replace hf := hk
  clear hk
  refine r_ifeqZ (b := r11) (tgt := 132) (by decide) dX12_readLine_122 (fun hc => ?_) (fun hc => ?_)
  · replace hf := hf.1 hc
    refine r_aload_n (j := 0) rfl rfl dX12_readLine_132 ?_
    refine r_ldcS (j := 28) rfl dX12_readLine_133 ?_
    refine r_aload_n (j := 0) rfl rfl dX12_readLine_135 ?_
    obtain ⟨fs_x12, x12, ha_x12, hv_x12, hf⟩ := hf
    refine r_get (Cn := RX12) (Tt := TX12) (N := 42) (n := 18) rfl uw_X12 (Nat.le_of_ble_eq_true rfl) wd_6_204 ha_x12 hv_x12 dX12_readLine_136 ?_
    refine r_iconst (v := 0) (by decide) dX12_readLine_139 ?_
    obtain ⟨N_x13, f_x13, ha_x13, hi_x13, hf⟩ := hf
    refine r_iald ha_x13 hi_x13 dX12_readLine_140 ?_
    generalize f_x13 (0 : Int32).toNatClampNeg = x13 at hf ⊢
    refine r_bipush (v := 8) (by decide) dX12_readLine_141 ?_
    refine r_icmpge (x := x13) (y := 8) (tgt := 150) (by decide) dX12_readLine_143 (fun hc => ?_) (fun hc => ?_)
    · replace hf := hf.1 hc
      refine r_iconst (v := 0) (by decide) dX12_readLine_150 ?_
      exact r_sub [0] rfl (b_X12_readLine_151 hf)
    · replace hf := hf.2 hc
      refine r_iconst (v := 1) (by decide) dX12_readLine_146 ?_
      refine r_goto (tgt := 151) (by decide) dX12_readLine_147 ?_
      exact r_sub [0] rfl (b_X12_readLine_151 hf)
  · replace hf := hf.2 hc
    refine r_aload_n (j := 0) rfl rfl dX12_readLine_125 ?_
    try unfold C_X12_pieceLine at hf
    obtain ⟨⟨fs_r15, ha_r15⟩, hf⟩ := hf
    refine r_invVU (t := 12) (As := []) (dz := d) (mz := 0) (sz := 0) rfl wd_7_185 wd_7_187 wd_p_68 cf_X12_pieceLine (Nat.le_refl _) (Nat.zero_le _) (Nat.zero_le _) (cat_ok (Nat.le_of_ble_eq_true rfl)) rfl rfl ha_r15 dX12_readLine_126 hf (fun σ14 hk => ?_)
    replace hf := hk
    clear hk
    refine r_goto (tgt := 189) (by decide) dX12_readLine_129 ?_
    exact r_sub [] rfl (b_X12_readLine_189 hf)
def F_X12_readLine_65 (l : Launch) (G : GG) (d : Nat) (v0 : Nat) (v1 : Bool) (s0 : Nat) (s1 : Nat) (s2 : Bool) (σ : Hp) (K : Hp → Prop) : Prop :=
  C_X12_begins l G d s0 s1 s2 v1 5 σ fun r17 σ16 =>
  (r17 = false →
    C_X12_begins l G d v0 (gK G 26) true v1 1 σ16 fun r19 σ18 =>
    (r19 = false →
      fN σ18 v0 12 16 fun x20 =>
      gI σ18 x20 4 fun x21 =>
      ((4 : Int32) ≤ (x21 : Int32) →
        F_X12_readLine_117 l G d v0 v1 v0 (gK G 27) false σ18 K) ∧
      (¬ (4 : Int32) ≤ (x21 : Int32) →
        F_X12_readLine_117 l G d v0 v1 v0 (gK G 27) true σ18 K)) ∧
    (r19 = true →
      C_X12_jugLine l G d v0 σ18 fun σ22 =>
      F_X12_readLine_189 l G d σ22 K)) ∧
  (r17 = true →
    C_X12_boardLine l G d v0 σ16 fun σ24 =>
    F_X12_readLine_189 l G d σ24 K)
set_option maxRecDepth 100000 in
set_option maxHeartbeats 4000000 in
theorem b_X12_readLine_65 {l : Launch} {G : GG} {d : Nat} {v0 : Nat} {v1 : Bool} {s0 : Nat} {s1 : Nat} {s2 : Bool} {σ : Hp} {K : Hp → Prop} (hf : F_X12_readLine_65 l G d v0 v1 s0 s1 s2 σ K) : Wd l G (d + 1) "CoinsLaidModel" yX12_readLine cX12_readLine 2 none 65 [(0, aR (some v0)), (1, aI (bi v1))] [aI (bi s2), aR (some s1), aR (some s0)] σ 0 0 (xM (QV K)) := by
  unfold F_X12_readLine_65 at hf
  refine r_iload_n (j := 1) rfl rfl dX12_readLine_65 ?_
  refine r_iconst (v := 5) (by decide) dX12_readLine_66 ?_
  try unfold C_X12_begins at hf
  obtain ⟨⟨fs_r17, ha_r17⟩, hf⟩ := hf
  refine r_invVZ (t := 12) (As := [aR (some s1), aI (bi s2), aI (bi v1), aI 5]) (dz := d) (mz := 0) (sz := 0) rfl wd_7_115 wd_7_117 wd_p_54 cf_X12_begins (Nat.le_refl _) (Nat.zero_le _) (Nat.zero_le _) (cat_ok (Nat.le_of_ble_eq_true rfl)) rfl rfl ha_r17 dX12_readLine_67 hf (fun r17 σ16 hk => ?_)
  replace hf := hk
  clear hk
  refine r_ifeqZ (b := r17) (tgt := 80) (by decide) dX12_readLine_70 (fun hc => ?_) (fun hc => ?_)
  · replace hf := hf.1 hc
    refine r_aload_n (j := 0) rfl rfl dX12_readLine_80 ?_
    refine r_ldcS (j := 26) rfl dX12_readLine_81 ?_
    refine r_iconst (v := 1) (by decide) dX12_readLine_83 ?_
    refine r_iload_n (j := 1) rfl rfl dX12_readLine_84 ?_
    refine r_iconst (v := 1) (by decide) dX12_readLine_85 ?_
    try unfold C_X12_begins at hf
    obtain ⟨⟨fs_r19, ha_r19⟩, hf⟩ := hf
    refine r_invVZ (t := 12) (As := [aR (some (gK G 26)), aI (bi true), aI (bi v1), aI 1]) (dz := d) (mz := 0) (sz := 0) rfl wd_7_115 wd_7_117 wd_p_54 cf_X12_begins (Nat.le_refl _) (Nat.zero_le _) (Nat.zero_le _) (cat_ok (Nat.le_of_ble_eq_true rfl)) rfl rfl ha_r19 dX12_readLine_86 hf (fun r19 σ18 hk => ?_)
    replace hf := hk
    clear hk
    refine r_ifeqZ (b := r19) (tgt := 99) (by decide) dX12_readLine_89 (fun hc => ?_) (fun hc => ?_)
    · replace hf := hf.1 hc
      refine r_aload_n (j := 0) rfl rfl dX12_readLine_99 ?_
      refine r_ldcS (j := 27) rfl dX12_readLine_100 ?_
      refine r_aload_n (j := 0) rfl rfl dX12_readLine_102 ?_
      obtain ⟨fs_x20, x20, ha_x20, hv_x20, hf⟩ := hf
      refine r_get (Cn := RX12) (Tt := TX12) (N := 42) (n := 16) rfl uw_X12 (Nat.le_of_ble_eq_true rfl) wd_6_202 ha_x20 hv_x20 dX12_readLine_103 ?_
      refine r_iconst (v := 4) (by decide) dX12_readLine_106 ?_
      obtain ⟨N_x21, f_x21, ha_x21, hi_x21, hf⟩ := hf
      refine r_iald ha_x21 hi_x21 dX12_readLine_107 ?_
      generalize f_x21 (4 : Int32).toNatClampNeg = x21 at hf ⊢
      refine r_iconst (v := 4) (by decide) dX12_readLine_108 ?_
      refine r_icmpge (x := x21) (y := 4) (tgt := 116) (by decide) dX12_readLine_109 (fun hc => ?_) (fun hc => ?_)
      · replace hf := hf.1 hc
        refine r_iconst (v := 0) (by decide) dX12_readLine_116 ?_
        exact r_sub [0, 1] rfl (b_X12_readLine_117 hf)
      · replace hf := hf.2 hc
        refine r_iconst (v := 1) (by decide) dX12_readLine_112 ?_
        refine r_goto (tgt := 117) (by decide) dX12_readLine_113 ?_
        exact r_sub [0, 1] rfl (b_X12_readLine_117 hf)
    · replace hf := hf.2 hc
      refine r_aload_n (j := 0) rfl rfl dX12_readLine_92 ?_
      try unfold C_X12_jugLine at hf
      obtain ⟨⟨fs_r23, ha_r23⟩, hf⟩ := hf
      refine r_invVU (t := 12) (As := []) (dz := d) (mz := 0) (sz := 0) rfl wd_7_174 wd_7_176 wd_p_66 cf_X12_jugLine (Nat.le_refl _) (Nat.zero_le _) (Nat.zero_le _) (cat_ok (Nat.le_of_ble_eq_true rfl)) rfl rfl ha_r23 dX12_readLine_93 hf (fun σ22 hk => ?_)
      replace hf := hk
      clear hk
      refine r_goto (tgt := 189) (by decide) dX12_readLine_96 ?_
      exact r_sub [] rfl (b_X12_readLine_189 hf)
  · replace hf := hf.2 hc
    refine r_aload_n (j := 0) rfl rfl dX12_readLine_73 ?_
    try unfold C_X12_boardLine at hf
    obtain ⟨⟨fs_r25, ha_r25⟩, hf⟩ := hf
    refine r_invVU (t := 12) (As := []) (dz := d) (mz := 0) (sz := 0) rfl wd_7_145 wd_7_147 wd_p_60 cf_X12_boardLine (Nat.le_refl _) (Nat.zero_le _) (Nat.zero_le _) (cat_ok (Nat.le_of_ble_eq_true rfl)) rfl rfl ha_r25 dX12_readLine_74 hf (fun σ24 hk => ?_)
    replace hf := hk
    clear hk
    refine r_goto (tgt := 189) (by decide) dX12_readLine_77 ?_
    exact r_sub [] rfl (b_X12_readLine_189 hf)
def F_X12_readLine_32 (l : Launch) (G : GG) (d : Nat) (v0 : Nat) (v1 : Bool) (s0 : Nat) (s1 : Nat) (s2 : Bool) (σ : Hp) (K : Hp → Prop) : Prop :=
  C_X12_begins l G d s0 s1 s2 true 3 σ fun r27 σ26 =>
  (r27 = false →
    fN σ26 v0 12 16 fun x28 =>
    gI σ26 x28 3 fun x29 =>
    ((3 : Int32) ≤ (x29 : Int32) →
      F_X12_readLine_65 l G d v0 v1 v0 (gK G 25) false σ26 K) ∧
    (¬ (3 : Int32) ≤ (x29 : Int32) →
      F_X12_readLine_65 l G d v0 v1 v0 (gK G 25) true σ26 K)) ∧
  (r27 = true →
    C_X12_tableLine l G d v0 σ26 fun σ30 =>
    F_X12_readLine_189 l G d σ30 K)
set_option maxRecDepth 100000 in
set_option maxHeartbeats 4000000 in
theorem b_X12_readLine_32 {l : Launch} {G : GG} {d : Nat} {v0 : Nat} {v1 : Bool} {s0 : Nat} {s1 : Nat} {s2 : Bool} {σ : Hp} {K : Hp → Prop} (hf : F_X12_readLine_32 l G d v0 v1 s0 s1 s2 σ K) : Wd l G (d + 1) "CoinsLaidModel" yX12_readLine cX12_readLine 2 none 32 [(0, aR (some v0)), (1, aI (bi v1))] [aI (bi s2), aR (some s1), aR (some s0)] σ 0 0 (xM (QV K)) := by
  unfold F_X12_readLine_32 at hf
  refine r_iconst (v := 1) (by decide) dX12_readLine_32 ?_
  refine r_iconst (v := 3) (by decide) dX12_readLine_33 ?_
  try unfold C_X12_begins at hf
  obtain ⟨⟨fs_r27, ha_r27⟩, hf⟩ := hf
  refine r_invVZ (t := 12) (As := [aR (some s1), aI (bi s2), aI (bi true), aI 3]) (dz := d) (mz := 0) (sz := 0) rfl wd_7_115 wd_7_117 wd_p_54 cf_X12_begins (Nat.le_refl _) (Nat.zero_le _) (Nat.zero_le _) (cat_ok (Nat.le_of_ble_eq_true rfl)) rfl rfl ha_r27 dX12_readLine_34 hf (fun r27 σ26 hk => ?_)
  replace hf := hk
  clear hk
  refine r_ifeqZ (b := r27) (tgt := 47) (by decide) dX12_readLine_37 (fun hc => ?_) (fun hc => ?_)
  · replace hf := hf.1 hc
    refine r_aload_n (j := 0) rfl rfl dX12_readLine_47 ?_
    refine r_ldcS (j := 25) rfl dX12_readLine_48 ?_
    refine r_aload_n (j := 0) rfl rfl dX12_readLine_50 ?_
    obtain ⟨fs_x28, x28, ha_x28, hv_x28, hf⟩ := hf
    refine r_get (Cn := RX12) (Tt := TX12) (N := 42) (n := 16) rfl uw_X12 (Nat.le_of_ble_eq_true rfl) wd_6_202 ha_x28 hv_x28 dX12_readLine_51 ?_
    refine r_iconst (v := 3) (by decide) dX12_readLine_54 ?_
    obtain ⟨N_x29, f_x29, ha_x29, hi_x29, hf⟩ := hf
    refine r_iald ha_x29 hi_x29 dX12_readLine_55 ?_
    generalize f_x29 (3 : Int32).toNatClampNeg = x29 at hf ⊢
    refine r_iconst (v := 3) (by decide) dX12_readLine_56 ?_
    refine r_icmpge (x := x29) (y := 3) (tgt := 64) (by decide) dX12_readLine_57 (fun hc => ?_) (fun hc => ?_)
    · replace hf := hf.1 hc
      refine r_iconst (v := 0) (by decide) dX12_readLine_64 ?_
      exact r_sub [0, 1] rfl (b_X12_readLine_65 hf)
    · replace hf := hf.2 hc
      refine r_iconst (v := 1) (by decide) dX12_readLine_60 ?_
      refine r_goto (tgt := 65) (by decide) dX12_readLine_61 ?_
      exact r_sub [0, 1] rfl (b_X12_readLine_65 hf)
  · replace hf := hf.2 hc
    refine r_aload_n (j := 0) rfl rfl dX12_readLine_40 ?_
    try unfold C_X12_tableLine at hf
    obtain ⟨⟨fs_r31, ha_r31⟩, hf⟩ := hf
    refine r_invVU (t := 12) (As := []) (dz := d) (mz := 0) (sz := 0) rfl wd_7_129 wd_7_131 wd_p_57 cf_X12_tableLine (Nat.le_refl _) (Nat.zero_le _) (Nat.zero_le _) (cat_ok (Nat.le_of_ble_eq_true rfl)) rfl rfl ha_r31 dX12_readLine_41 hf (fun σ30 hk => ?_)
    replace hf := hk
    clear hk
    refine r_goto (tgt := 189) (by decide) dX12_readLine_44 ?_
    exact r_sub [] rfl (b_X12_readLine_189 hf)
def F_X12_readLine_14 (l : Launch) (G : GG) (d : Nat) (v0 : Nat) (s0 : Bool) (σ : Hp) (K : Hp → Prop) : Prop :=
  fN σ v0 12 16 fun x32 =>
  gI σ x32 0 fun x33 =>
  (¬ (x33 : Int32) = 0 →
    F_X12_readLine_32 l G d v0 s0 v0 (gK G 21) false σ K) ∧
  ((x33 : Int32) = 0 →
    F_X12_readLine_32 l G d v0 s0 v0 (gK G 21) true σ K)
set_option maxRecDepth 100000 in
set_option maxHeartbeats 4000000 in
theorem b_X12_readLine_14 {l : Launch} {G : GG} {d : Nat} {v0 : Nat} {s0 : Bool} {σ : Hp} {K : Hp → Prop} (hf : F_X12_readLine_14 l G d v0 s0 σ K) : Wd l G (d + 1) "CoinsLaidModel" yX12_readLine cX12_readLine 2 none 14 [(0, aR (some v0))] [aI (bi s0)] σ 0 0 (xM (QV K)) := by
  unfold F_X12_readLine_14 at hf
  refine r_istore_n (L' := [(1, aI (bi s0)), (0, aR (some v0))]) rfl rfl (Nat.le_of_ble_eq_true rfl) dX12_readLine_14 ?_
  refine r_aload_n (j := 1) rfl rfl dX12_readLine_15 ?_
  refine r_ldcS (j := 21) rfl dX12_readLine_16 ?_
  refine r_aload_n (j := 1) rfl rfl dX12_readLine_18 ?_
  obtain ⟨fs_x32, x32, ha_x32, hv_x32, hf⟩ := hf
  refine r_get (Cn := RX12) (Tt := TX12) (N := 42) (n := 16) rfl uw_X12 (Nat.le_of_ble_eq_true rfl) wd_6_202 ha_x32 hv_x32 dX12_readLine_19 ?_
  refine r_iconst (v := 0) (by decide) dX12_readLine_22 ?_
  obtain ⟨N_x33, f_x33, ha_x33, hi_x33, hf⟩ := hf
  refine r_iald ha_x33 hi_x33 dX12_readLine_23 ?_
  generalize f_x33 (0 : Int32).toNatClampNeg = x33 at hf ⊢
  refine r_ifne (x := x33) (tgt := 31) (by decide) dX12_readLine_24 (fun hc => ?_) (fun hc => ?_)
  · replace hf := hf.1 hc
    refine r_iconst (v := 0) (by decide) dX12_readLine_31 ?_
    exact r_sub [1, 0] rfl (b_X12_readLine_32 hf)
  · replace hf := hf.2 hc
    refine r_iconst (v := 1) (by decide) dX12_readLine_27 ?_
    refine r_goto (tgt := 32) (by decide) dX12_readLine_28 ?_
    exact r_sub [1, 0] rfl (b_X12_readLine_32 hf)
def F_X12_readLine (l : Launch) (G : GG) (d : Nat) (v0 : Nat) (σ : Hp) (K : Hp → Prop) : Prop :=
  fN σ v0 12 18 fun x34 =>
  gI σ x34 0 fun x35 =>
  (¬ (x35 : Int32) = 0 →
    F_X12_readLine_14 l G d v0 false σ K) ∧
  ((x35 : Int32) = 0 →
    F_X12_readLine_14 l G d v0 true σ K)
set_option maxRecDepth 100000 in
set_option maxHeartbeats 4000000 in
theorem b_X12_readLine_0 {l : Launch} {G : GG} {d : Nat} {v0 : Nat} {σ : Hp} {K : Hp → Prop} (hf : F_X12_readLine l G d v0 σ K) : Wd l G (d + 1) "CoinsLaidModel" yX12_readLine cX12_readLine 2 none 0 [(0, aR (some v0))] [] σ 0 0 (xM (QV K)) := by
  unfold F_X12_readLine at hf
  refine r_aload_n (j := 0) rfl rfl dX12_readLine_0 ?_
  obtain ⟨fs_x34, x34, ha_x34, hv_x34, hf⟩ := hf
  refine r_get (Cn := RX12) (Tt := TX12) (N := 42) (n := 18) rfl uw_X12 (Nat.le_of_ble_eq_true rfl) wd_6_204 ha_x34 hv_x34 dX12_readLine_1 ?_
  refine r_iconst (v := 0) (by decide) dX12_readLine_4 ?_
  obtain ⟨N_x35, f_x35, ha_x35, hi_x35, hf⟩ := hf
  refine r_iald ha_x35 hi_x35 dX12_readLine_5 ?_
  generalize f_x35 (0 : Int32).toNatClampNeg = x35 at hf ⊢
  refine r_ifne (x := x35) (tgt := 13) (by decide) dX12_readLine_6 (fun hc => ?_) (fun hc => ?_)
  · replace hf := hf.1 hc
    refine r_iconst (v := 0) (by decide) dX12_readLine_13 ?_
    exact r_sub [0] rfl (b_X12_readLine_14 hf)
  · replace hf := hf.2 hc
    refine r_iconst (v := 1) (by decide) dX12_readLine_9 ?_
    refine r_goto (tgt := 14) (by decide) dX12_readLine_10 ?_
    exact r_sub [0] rfl (b_X12_readLine_14 hf)
theorem m_X12_readLine {l : Launch} {G : GG} {d : Nat} {v0 : Nat} {σ : Hp} {K : Hp → Prop} (hr : rv σ v0 12) (hf : F_X12_readLine l G d v0 σ K) : C_X12_readLine l G (d + 1) v0 σ K := ⟨hr, Sp.of (by decide) (Nat.le_of_ble_eq_true rfl) (b_X12_readLine_0 hf) rfl⟩
def F_X12_tableLine_63 (l : Launch) (G : GG) (d : Nat) (σ : Hp) (K : Hp → Prop) : Prop :=
  K σ
set_option maxRecDepth 100000 in
set_option maxHeartbeats 4000000 in
theorem b_X12_tableLine_63 {l : Launch} {G : GG} {d : Nat} {σ : Hp} {K : Hp → Prop} (hf : F_X12_tableLine_63 l G d  σ K) : Wd l G (d + 1) "CoinsLaidModel" yX12_tableLine cX12_tableLine 1 none 63 [] [] σ 0 0 (xM (QV K)) := by
  unfold F_X12_tableLine_63 at hf
  exact r_return rfl dX12_tableLine_63 rfl ⟨rfl, hf⟩
def F_X12_tableLine_49 (l : Launch) (G : GG) (d : Nat) (v0 : Nat) (σ : Hp) (K : Hp → Prop) : Prop :=
  fZ σ v0 12 13 fun x1 =>
  (x1 = true →
    F_X12_tableLine_63 l G d σ K) ∧
  (x1 = false →
    fN σ v0 12 16 fun x2 =>
    sI σ x2 0 1 fun σ3 =>
    F_X12_tableLine_63 l G d σ3 K)
set_option maxRecDepth 100000 in
set_option maxHeartbeats 4000000 in
theorem b_X12_tableLine_49 {l : Launch} {G : GG} {d : Nat} {v0 : Nat} {σ : Hp} {K : Hp → Prop} (hf : F_X12_tableLine_49 l G d v0 σ K) : Wd l G (d + 1) "CoinsLaidModel" yX12_tableLine cX12_tableLine 1 none 49 [(0, aR (some v0))] [] σ 0 0 (xM (QV K)) := by
  unfold F_X12_tableLine_49 at hf
  refine r_aload_n (j := 0) rfl rfl dX12_tableLine_49 ?_
  obtain ⟨fs_x1, x1, ha_x1, hv_x1, hf⟩ := hf
  refine r_get (Cn := RX12) (Tt := TX12) (N := 42) (n := 13) rfl uw_X12 (Nat.le_of_ble_eq_true rfl) wd_6_199 ha_x1 hv_x1 dX12_tableLine_50 ?_
  refine r_ifneZ (b := x1) (tgt := 63) (by decide) dX12_tableLine_53 (fun hc => ?_) (fun hc => ?_)
  · replace hf := hf.1 hc
    exact r_sub [] rfl (b_X12_tableLine_63 hf)
  · replace hf := hf.2 hc
    refine r_aload_n (j := 0) rfl rfl dX12_tableLine_56 ?_
    obtain ⟨fs_x2, x2, ha_x2, hv_x2, hf⟩ := hf
    refine r_get (Cn := RX12) (Tt := TX12) (N := 42) (n := 16) rfl uw_X12 (Nat.le_of_ble_eq_true rfl) wd_6_202 ha_x2 hv_x2 dX12_tableLine_57 ?_
    refine r_iconst (v := 0) (by decide) dX12_tableLine_60 ?_
    refine r_iconst (v := 1) (by decide) dX12_tableLine_61 ?_
    obtain ⟨N_x4, f_x4, ha_x4, hi_x4, hf⟩ := hf
    generalize hσ3 : hset σ x2 (iA N_x4 (up_ f_x4 (0 : Int32).toNatClampNeg 1)) = σ3 at hf
    refine r_iast (f := f_x4) (x := 1) ha_x4 hi_x4 dX12_tableLine_62 ?_
    refine Eq.mpr (congrArg (fun z => Wd _ _ _ _ _ _ _ _ _ _ _ z _ _ _) hσ3) ?_
    exact r_sub [] rfl (b_X12_tableLine_63 hf)
def F_X12_tableLine_33 (l : Launch) (G : GG) (d : Nat) (v0 : Nat) (σ : Hp) (K : Hp → Prop) : Prop :=
  C_X12_takesWord l G d v0 (gK G 24) σ fun r6 σ5 =>
  (r6 = false →
    F_X12_tableLine_49 l G d v0 σ5 K) ∧
  (r6 = true →
    fN σ5 v0 12 16 fun x7 =>
    sI σ5 x7 2 1 fun σ8 =>
    F_X12_tableLine_49 l G d v0 σ8 K)
set_option maxRecDepth 100000 in
set_option maxHeartbeats 4000000 in
theorem b_X12_tableLine_33 {l : Launch} {G : GG} {d : Nat} {v0 : Nat} {σ : Hp} {K : Hp → Prop} (hf : F_X12_tableLine_33 l G d v0 σ K) : Wd l G (d + 1) "CoinsLaidModel" yX12_tableLine cX12_tableLine 1 none 33 [(0, aR (some v0))] [] σ 0 0 (xM (QV K)) := by
  unfold F_X12_tableLine_33 at hf
  refine r_aload_n (j := 0) rfl rfl dX12_tableLine_33 ?_
  refine r_ldcS (j := 24) rfl dX12_tableLine_34 ?_
  try unfold C_X12_takesWord at hf
  obtain ⟨⟨fs_r6, ha_r6⟩, hf⟩ := hf
  refine r_invVZ (t := 12) (As := [aR (some (gK G 24))]) (dz := d) (mz := 0) (sz := 0) rfl wd_7_134 wd_7_136 wd_p_58 cf_X12_takesWord (Nat.le_refl _) (Nat.zero_le _) (Nat.zero_le _) (cat_ok (Nat.le_of_ble_eq_true rfl)) rfl rfl ha_r6 dX12_tableLine_36 hf (fun r6 σ5 hk => ?_)
  replace hf := hk
  clear hk
  refine r_ifeqZ (b := r6) (tgt := 49) (by decide) dX12_tableLine_39 (fun hc => ?_) (fun hc => ?_)
  · replace hf := hf.1 hc
    exact r_sub [0] rfl (b_X12_tableLine_49 hf)
  · replace hf := hf.2 hc
    refine r_aload_n (j := 0) rfl rfl dX12_tableLine_42 ?_
    obtain ⟨fs_x7, x7, ha_x7, hv_x7, hf⟩ := hf
    refine r_get (Cn := RX12) (Tt := TX12) (N := 42) (n := 16) rfl uw_X12 (Nat.le_of_ble_eq_true rfl) wd_6_202 ha_x7 hv_x7 dX12_tableLine_43 ?_
    refine r_iconst (v := 2) (by decide) dX12_tableLine_46 ?_
    refine r_iconst (v := 1) (by decide) dX12_tableLine_47 ?_
    obtain ⟨N_x9, f_x9, ha_x9, hi_x9, hf⟩ := hf
    generalize hσ8 : hset σ5 x7 (iA N_x9 (up_ f_x9 (2 : Int32).toNatClampNeg 1)) = σ8 at hf
    refine r_iast (f := f_x9) (x := 1) ha_x9 hi_x9 dX12_tableLine_48 ?_
    refine Eq.mpr (congrArg (fun z => Wd _ _ _ _ _ _ _ _ _ _ _ z _ _ _) hσ8) ?_
    exact r_sub [0] rfl (b_X12_tableLine_49 hf)
def F_X12_tableLine (l : Launch) (G : GG) (d : Nat) (v0 : Nat) (σ : Hp) (K : Hp → Prop) : Prop :=
  fZ σ v0 12 13 fun x10 =>
  (x10 = false →
    C_X12_takesWord l G d v0 (gK G 22) σ fun r12 σ11 =>
    (r12 = false →
      C_X12_must l G d v0 (gK G 23) σ11 fun σ13 =>
      F_X12_tableLine_33 l G d v0 σ13 K) ∧
    (r12 = true →
      fN σ11 v0 12 16 fun x15 =>
      sI σ11 x15 1 1 fun σ16 =>
      F_X12_tableLine_33 l G d v0 σ16 K)) ∧
  (x10 = true →
    K σ)
set_option maxRecDepth 100000 in
set_option maxHeartbeats 4000000 in
theorem b_X12_tableLine_0 {l : Launch} {G : GG} {d : Nat} {v0 : Nat} {σ : Hp} {K : Hp → Prop} (hf : F_X12_tableLine l G d v0 σ K) : Wd l G (d + 1) "CoinsLaidModel" yX12_tableLine cX12_tableLine 1 none 0 [(0, aR (some v0))] [] σ 0 0 (xM (QV K)) := by
  unfold F_X12_tableLine at hf
  refine r_aload_n (j := 0) rfl rfl dX12_tableLine_0 ?_
  obtain ⟨fs_x10, x10, ha_x10, hv_x10, hf⟩ := hf
  refine r_get (Cn := RX12) (Tt := TX12) (N := 42) (n := 13) rfl uw_X12 (Nat.le_of_ble_eq_true rfl) wd_6_199 ha_x10 hv_x10 dX12_tableLine_1 ?_
  refine r_ifeqZ (b := x10) (tgt := 8) (by decide) dX12_tableLine_4 (fun hc => ?_) (fun hc => ?_)
  · replace hf := hf.1 hc
    refine r_aload_n (j := 0) rfl rfl dX12_tableLine_8 ?_
    refine r_ldcS (j := 22) rfl dX12_tableLine_9 ?_
    try unfold C_X12_takesWord at hf
    obtain ⟨⟨fs_r12, ha_r12⟩, hf⟩ := hf
    refine r_invVZ (t := 12) (As := [aR (some (gK G 22))]) (dz := d) (mz := 0) (sz := 0) rfl wd_7_134 wd_7_136 wd_p_58 cf_X12_takesWord (Nat.le_refl _) (Nat.zero_le _) (Nat.zero_le _) (cat_ok (Nat.le_of_ble_eq_true rfl)) rfl rfl ha_r12 dX12_tableLine_11 hf (fun r12 σ11 hk => ?_)
    replace hf := hk
    clear hk
    refine r_ifeqZ (b := r12) (tgt := 27) (by decide) dX12_tableLine_14 (fun hc => ?_) (fun hc => ?_)
    · replace hf := hf.1 hc
      refine r_aload_n (j := 0) rfl rfl dX12_tableLine_27 ?_
      refine r_ldcS (j := 23) rfl dX12_tableLine_28 ?_
      try unfold C_X12_must at hf
      obtain ⟨⟨fs_r14, ha_r14⟩, hf⟩ := hf
      refine r_invVU (t := 12) (As := [aR (some (gK G 23))]) (dz := d) (mz := 0) (sz := 0) rfl wd_7_139 wd_7_141 wd_p_59 cf_X12_must (Nat.le_refl _) (Nat.zero_le _) (Nat.zero_le _) (cat_ok (Nat.le_of_ble_eq_true rfl)) rfl rfl ha_r14 dX12_tableLine_30 hf (fun σ13 hk => ?_)
      replace hf := hk
      clear hk
      exact r_sub [0] rfl (b_X12_tableLine_33 hf)
    · replace hf := hf.2 hc
      refine r_aload_n (j := 0) rfl rfl dX12_tableLine_17 ?_
      obtain ⟨fs_x15, x15, ha_x15, hv_x15, hf⟩ := hf
      refine r_get (Cn := RX12) (Tt := TX12) (N := 42) (n := 16) rfl uw_X12 (Nat.le_of_ble_eq_true rfl) wd_6_202 ha_x15 hv_x15 dX12_tableLine_18 ?_
      refine r_iconst (v := 1) (by decide) dX12_tableLine_21 ?_
      refine r_iconst (v := 1) (by decide) dX12_tableLine_22 ?_
      obtain ⟨N_x17, f_x17, ha_x17, hi_x17, hf⟩ := hf
      generalize hσ16 : hset σ11 x15 (iA N_x17 (up_ f_x17 (1 : Int32).toNatClampNeg 1)) = σ16 at hf
      refine r_iast (f := f_x17) (x := 1) ha_x17 hi_x17 dX12_tableLine_23 ?_
      refine Eq.mpr (congrArg (fun z => Wd _ _ _ _ _ _ _ _ _ _ _ z _ _ _) hσ16) ?_
      refine r_goto (tgt := 33) (by decide) dX12_tableLine_24 ?_
      exact r_sub [0] rfl (b_X12_tableLine_33 hf)
  · replace hf := hf.2 hc
    exact r_return rfl dX12_tableLine_7 rfl ⟨rfl, hf⟩
theorem m_X12_tableLine {l : Launch} {G : GG} {d : Nat} {v0 : Nat} {σ : Hp} {K : Hp → Prop} (hr : rv σ v0 12) (hf : F_X12_tableLine l G d v0 σ K) : C_X12_tableLine l G (d + 1) v0 σ K := ⟨hr, Sp.of (by decide) (Nat.le_of_ble_eq_true rfl) (b_X12_tableLine_0 hf) rfl⟩
def F_X12_boardLine_78 (l : Launch) (G : GG) (d : Nat) (v0 : Nat) (v1 : Int32) (v2 : Int32) (v3 : Int32) (σ : Hp) (K : Hp → Prop) : Prop :=
  fZ σ v0 12 13 fun x1 =>
  (x1 = false →
    C_X12_next l G d v0 σ fun σ2 =>
    fN σ2 v0 12 16 fun x4 =>
    sI σ2 x4 (7 + v1) v2 fun σ5 =>
    fN σ5 v0 12 16 fun x7 =>
    sI σ5 x7 (10 + v1) v3 fun σ8 =>
    fN σ8 v0 12 16 fun x10 =>
    fN σ8 v0 12 16 fun x11 =>
    gI σ8 x11 5 fun x12 =>
    sI σ8 x10 (13 + v1) x12 fun σ13 =>
    fN σ13 v0 12 16 fun x15 =>
    gI σ13 x15 5 fun x16 =>
    sI σ13 x15 5 (x16 + (v2 * v3)) fun σ17 =>
    fN σ17 v0 12 16 fun x19 =>
    gI σ17 x19 3 fun x20 =>
    sI σ17 x19 3 (x20 + 1) fun σ21 =>
    K σ21) ∧
  (x1 = true →
    K σ)
set_option maxRecDepth 100000 in
set_option maxHeartbeats 4000000 in
theorem b_X12_boardLine_78 {l : Launch} {G : GG} {d : Nat} {v0 : Nat} {v1 : Int32} {v2 : Int32} {v3 : Int32} {σ : Hp} {K : Hp → Prop} (hf : F_X12_boardLine_78 l G d v0 v1 v2 v3 σ K) : Wd l G (d + 1) "CoinsLaidModel" yX12_boardLine cX12_boardLine 4 none 78 [(0, aR (some v0)), (1, aI v1), (2, aI v2), (3, aI v3)] [] σ 0 0 (xM (QV K)) := by
  unfold F_X12_boardLine_78 at hf
  refine r_aload_n (j := 0) rfl rfl dX12_boardLine_78 ?_
  obtain ⟨fs_x1, x1, ha_x1, hv_x1, hf⟩ := hf
  refine r_get (Cn := RX12) (Tt := TX12) (N := 42) (n := 13) rfl uw_X12 (Nat.le_of_ble_eq_true rfl) wd_6_199 ha_x1 hv_x1 dX12_boardLine_79 ?_
  refine r_ifeqZ (b := x1) (tgt := 86) (by decide) dX12_boardLine_82 (fun hc => ?_) (fun hc => ?_)
  · replace hf := hf.1 hc
    refine r_aload_n (j := 0) rfl rfl dX12_boardLine_86 ?_
    try unfold C_X12_next at hf
    obtain ⟨⟨fs_r3, ha_r3⟩, hf⟩ := hf
    refine r_invVU (t := 12) (As := []) (dz := d) (mz := 0) (sz := 0) rfl wd_7_96 wd_7_98 wd_p_51 cf_X12_next (Nat.le_refl _) (Nat.zero_le _) (Nat.zero_le _) (cat_ok (Nat.le_of_ble_eq_true rfl)) rfl rfl ha_r3 dX12_boardLine_87 hf (fun σ2 hk => ?_)
    replace hf := hk
    clear hk
    refine r_aload_n (j := 0) rfl rfl dX12_boardLine_90 ?_
    obtain ⟨fs_x4, x4, ha_x4, hv_x4, hf⟩ := hf
    refine r_get (Cn := RX12) (Tt := TX12) (N := 42) (n := 16) rfl uw_X12 (Nat.le_of_ble_eq_true rfl) wd_6_202 ha_x4 hv_x4 dX12_boardLine_91 ?_
    refine r_bipush (v := 7) (by decide) dX12_boardLine_94 ?_
    refine r_iload_n (j := 1) rfl rfl dX12_boardLine_96 ?_
    refine r_iadd (x := 7) (y := v1) dX12_boardLine_97 ?_
    refine r_iload_n (j := 2) rfl rfl dX12_boardLine_98 ?_
    obtain ⟨N_x6, f_x6, ha_x6, hi_x6, hf⟩ := hf
    generalize hσ5 : hset σ2 x4 (iA N_x6 (up_ f_x6 ((7 + v1) : Int32).toNatClampNeg v2)) = σ5 at hf
    refine r_iast (f := f_x6) (x := v2) ha_x6 hi_x6 dX12_boardLine_99 ?_
    refine Eq.mpr (congrArg (fun z => Wd _ _ _ _ _ _ _ _ _ _ _ z _ _ _) hσ5) ?_
    refine r_aload_n (j := 0) rfl rfl dX12_boardLine_100 ?_
    obtain ⟨fs_x7, x7, ha_x7, hv_x7, hf⟩ := hf
    refine r_get (Cn := RX12) (Tt := TX12) (N := 42) (n := 16) rfl uw_X12 (Nat.le_of_ble_eq_true rfl) wd_6_202 ha_x7 hv_x7 dX12_boardLine_101 ?_
    refine r_bipush (v := 10) (by decide) dX12_boardLine_104 ?_
    refine r_iload_n (j := 1) rfl rfl dX12_boardLine_106 ?_
    refine r_iadd (x := 10) (y := v1) dX12_boardLine_107 ?_
    refine r_iload_n (j := 3) rfl rfl dX12_boardLine_108 ?_
    obtain ⟨N_x9, f_x9, ha_x9, hi_x9, hf⟩ := hf
    generalize hσ8 : hset σ5 x7 (iA N_x9 (up_ f_x9 ((10 + v1) : Int32).toNatClampNeg v3)) = σ8 at hf
    refine r_iast (f := f_x9) (x := v3) ha_x9 hi_x9 dX12_boardLine_109 ?_
    refine Eq.mpr (congrArg (fun z => Wd _ _ _ _ _ _ _ _ _ _ _ z _ _ _) hσ8) ?_
    refine r_aload_n (j := 0) rfl rfl dX12_boardLine_110 ?_
    obtain ⟨fs_x10, x10, ha_x10, hv_x10, hf⟩ := hf
    refine r_get (Cn := RX12) (Tt := TX12) (N := 42) (n := 16) rfl uw_X12 (Nat.le_of_ble_eq_true rfl) wd_6_202 ha_x10 hv_x10 dX12_boardLine_111 ?_
    refine r_bipush (v := 13) (by decide) dX12_boardLine_114 ?_
    refine r_iload_n (j := 1) rfl rfl dX12_boardLine_116 ?_
    refine r_iadd (x := 13) (y := v1) dX12_boardLine_117 ?_
    refine r_aload_n (j := 0) rfl rfl dX12_boardLine_118 ?_
    obtain ⟨fs_x11, x11, ha_x11, hv_x11, hf⟩ := hf
    refine r_get (Cn := RX12) (Tt := TX12) (N := 42) (n := 16) rfl uw_X12 (Nat.le_of_ble_eq_true rfl) wd_6_202 ha_x11 hv_x11 dX12_boardLine_119 ?_
    refine r_iconst (v := 5) (by decide) dX12_boardLine_122 ?_
    obtain ⟨N_x12, f_x12, ha_x12, hi_x12, hf⟩ := hf
    refine r_iald ha_x12 hi_x12 dX12_boardLine_123 ?_
    generalize f_x12 (5 : Int32).toNatClampNeg = x12 at hf ⊢
    obtain ⟨N_x14, f_x14, ha_x14, hi_x14, hf⟩ := hf
    generalize hσ13 : hset σ8 x10 (iA N_x14 (up_ f_x14 ((13 + v1) : Int32).toNatClampNeg x12)) = σ13 at hf
    refine r_iast (f := f_x14) (x := x12) ha_x14 hi_x14 dX12_boardLine_124 ?_
    refine Eq.mpr (congrArg (fun z => Wd _ _ _ _ _ _ _ _ _ _ _ z _ _ _) hσ13) ?_
    refine r_aload_n (j := 0) rfl rfl dX12_boardLine_125 ?_
    obtain ⟨fs_x15, x15, ha_x15, hv_x15, hf⟩ := hf
    refine r_get (Cn := RX12) (Tt := TX12) (N := 42) (n := 16) rfl uw_X12 (Nat.le_of_ble_eq_true rfl) wd_6_202 ha_x15 hv_x15 dX12_boardLine_126 ?_
    refine r_iconst (v := 5) (by decide) dX12_boardLine_129 ?_
    refine r_dup2 rfl rfl dX12_boardLine_130 ?_
    obtain ⟨N_x16, f_x16, ha_x16, hi_x16, hf⟩ := hf
    refine r_iald ha_x16 hi_x16 dX12_boardLine_131 ?_
    generalize f_x16 (5 : Int32).toNatClampNeg = x16 at hf ⊢
    refine r_iload_n (j := 2) rfl rfl dX12_boardLine_132 ?_
    refine r_iload_n (j := 3) rfl rfl dX12_boardLine_133 ?_
    refine r_imul (x := v2) (y := v3) dX12_boardLine_134 ?_
    refine r_iadd (x := x16) (y := (v2 * v3)) dX12_boardLine_135 ?_
    obtain ⟨N_x18, f_x18, ha_x18, hi_x18, hf⟩ := hf
    generalize hσ17 : hset σ13 x15 (iA N_x18 (up_ f_x18 (5 : Int32).toNatClampNeg (x16 + (v2 * v3)))) = σ17 at hf
    refine r_iast (f := f_x18) (x := (x16 + (v2 * v3))) ha_x18 hi_x18 dX12_boardLine_136 ?_
    refine Eq.mpr (congrArg (fun z => Wd _ _ _ _ _ _ _ _ _ _ _ z _ _ _) hσ17) ?_
    refine r_aload_n (j := 0) rfl rfl dX12_boardLine_137 ?_
    obtain ⟨fs_x19, x19, ha_x19, hv_x19, hf⟩ := hf
    refine r_get (Cn := RX12) (Tt := TX12) (N := 42) (n := 16) rfl uw_X12 (Nat.le_of_ble_eq_true rfl) wd_6_202 ha_x19 hv_x19 dX12_boardLine_138 ?_
    refine r_iconst (v := 3) (by decide) dX12_boardLine_141 ?_
    refine r_dup2 rfl rfl dX12_boardLine_142 ?_
    obtain ⟨N_x20, f_x20, ha_x20, hi_x20, hf⟩ := hf
    refine r_iald ha_x20 hi_x20 dX12_boardLine_143 ?_
    generalize f_x20 (3 : Int32).toNatClampNeg = x20 at hf ⊢
    refine r_iconst (v := 1) (by decide) dX12_boardLine_144 ?_
    refine r_iadd (x := x20) (y := 1) dX12_boardLine_145 ?_
    obtain ⟨N_x22, f_x22, ha_x22, hi_x22, hf⟩ := hf
    generalize hσ21 : hset σ17 x19 (iA N_x22 (up_ f_x22 (3 : Int32).toNatClampNeg (x20 + 1))) = σ21 at hf
    refine r_iast (f := f_x22) (x := (x20 + 1)) ha_x22 hi_x22 dX12_boardLine_146 ?_
    refine Eq.mpr (congrArg (fun z => Wd _ _ _ _ _ _ _ _ _ _ _ z _ _ _) hσ21) ?_
    exact r_return rfl dX12_boardLine_147 rfl ⟨rfl, hf⟩
  · replace hf := hf.2 hc
    exact r_return rfl dX12_boardLine_85 rfl ⟨rfl, hf⟩
def F_X12_boardLine (l : Launch) (G : GG) (d : Nat) (v0 : Nat) (σ : Hp) (K : Hp → Prop) : Prop :=
  fZ σ v0 12 13 fun x23 =>
  (x23 = false →
    fN σ v0 12 16 fun x24 =>
    gI σ x24 3 fun x25 =>
    C_X12_newName l G d v0 x25 σ fun σ26 =>
    C_X12_must l G d v0 (gK G 29) σ26 fun σ28 =>
    C_X12_number l G d v0 1 8 σ28 fun r31 σ30 =>
    C_X12_must l G d v0 (gK G 30) σ30 fun σ32 =>
    C_X12_numberHere l G d v0 1 4 σ32 fun r35 σ34 =>
    fZ σ34 v0 12 13 fun x36 =>
    (x36 = true →
      F_X12_boardLine_78 l G d v0 x25 r31 r35 σ34 K) ∧
    (x36 = false →
      fN σ34 v0 12 16 fun x37 =>
      gI σ34 x37 5 fun x38 =>
      (((x38 + (r31 * r35)) : Int32) ≤ (14 : Int32) →
        F_X12_boardLine_78 l G d v0 x25 r31 r35 σ34 K) ∧
      (¬ ((x38 + (r31 * r35)) : Int32) ≤ (14 : Int32) →
        fI σ34 v0 12 4 fun x39 =>
        C_X12_wrong l G d v0 4 x39 σ34 fun σ40 =>
        F_X12_boardLine_78 l G d v0 x25 r31 r35 σ40 K))) ∧
  (x23 = true →
    K σ)
set_option maxRecDepth 100000 in
set_option maxHeartbeats 4000000 in
theorem b_X12_boardLine_0 {l : Launch} {G : GG} {d : Nat} {v0 : Nat} {σ : Hp} {K : Hp → Prop} (hf : F_X12_boardLine l G d v0 σ K) : Wd l G (d + 1) "CoinsLaidModel" yX12_boardLine cX12_boardLine 4 none 0 [(0, aR (some v0))] [] σ 0 0 (xM (QV K)) := by
  unfold F_X12_boardLine at hf
  refine r_aload_n (j := 0) rfl rfl dX12_boardLine_0 ?_
  obtain ⟨fs_x23, x23, ha_x23, hv_x23, hf⟩ := hf
  refine r_get (Cn := RX12) (Tt := TX12) (N := 42) (n := 13) rfl uw_X12 (Nat.le_of_ble_eq_true rfl) wd_6_199 ha_x23 hv_x23 dX12_boardLine_1 ?_
  refine r_ifeqZ (b := x23) (tgt := 8) (by decide) dX12_boardLine_4 (fun hc => ?_) (fun hc => ?_)
  · replace hf := hf.1 hc
    refine r_aload_n (j := 0) rfl rfl dX12_boardLine_8 ?_
    obtain ⟨fs_x24, x24, ha_x24, hv_x24, hf⟩ := hf
    refine r_get (Cn := RX12) (Tt := TX12) (N := 42) (n := 16) rfl uw_X12 (Nat.le_of_ble_eq_true rfl) wd_6_202 ha_x24 hv_x24 dX12_boardLine_9 ?_
    refine r_iconst (v := 3) (by decide) dX12_boardLine_12 ?_
    obtain ⟨N_x25, f_x25, ha_x25, hi_x25, hf⟩ := hf
    refine r_iald ha_x25 hi_x25 dX12_boardLine_13 ?_
    generalize f_x25 (3 : Int32).toNatClampNeg = x25 at hf ⊢
    refine r_istore_n (L' := [(1, aI x25), (0, aR (some v0))]) rfl rfl (Nat.le_of_ble_eq_true rfl) dX12_boardLine_14 ?_
    refine r_aload_n (j := 1) rfl rfl dX12_boardLine_15 ?_
    refine r_iload_n (j := 0) rfl rfl dX12_boardLine_16 ?_
    try unfold C_X12_newName at hf
    obtain ⟨⟨fs_r27, ha_r27⟩, hf⟩ := hf
    refine r_invVU (t := 12) (As := [aI x25]) (dz := d) (mz := 0) (sz := 0) rfl wd_7_149 wd_7_151 wd_p_61 cf_X12_newName (Nat.le_refl _) (Nat.zero_le _) (Nat.zero_le _) (cat_ok (Nat.le_of_ble_eq_true rfl)) rfl rfl ha_r27 dX12_boardLine_17 hf (fun σ26 hk => ?_)
    replace hf := hk
    clear hk
    refine r_aload_n (j := 1) rfl rfl dX12_boardLine_20 ?_
    refine r_ldcS (j := 29) rfl dX12_boardLine_21 ?_
    try unfold C_X12_must at hf
    obtain ⟨⟨fs_r29, ha_r29⟩, hf⟩ := hf
    refine r_invVU (t := 12) (As := [aR (some (gK G 29))]) (dz := d) (mz := 0) (sz := 0) rfl wd_7_139 wd_7_141 wd_p_59 cf_X12_must (Nat.le_refl _) (Nat.zero_le _) (Nat.zero_le _) (cat_ok (Nat.le_of_ble_eq_true rfl)) rfl rfl ha_r29 dX12_boardLine_23 hf (fun σ28 hk => ?_)
    replace hf := hk
    clear hk
    refine r_aload_n (j := 1) rfl rfl dX12_boardLine_26 ?_
    refine r_iconst (v := 1) (by decide) dX12_boardLine_27 ?_
    refine r_bipush (v := 8) (by decide) dX12_boardLine_28 ?_
    try unfold C_X12_number at hf
    obtain ⟨⟨fs_r31, ha_r31⟩, hf⟩ := hf
    refine r_invVI (t := 12) (As := [aI 1, aI 8]) (dz := d) (mz := 0) (sz := 0) rfl wd_7_165 wd_7_167 wd_p_64 cf_X12_number (Nat.le_refl _) (Nat.zero_le _) (Nat.zero_le _) (cat_ok (Nat.le_of_ble_eq_true rfl)) rfl rfl ha_r31 dX12_boardLine_30 hf (fun r31 σ30 hk => ?_)
    replace hf := hk
    clear hk
    refine r_istore_n (L' := [(2, aI r31), (1, aI x25), (0, aR (some v0))]) rfl rfl (Nat.le_of_ble_eq_true rfl) dX12_boardLine_33 ?_
    refine r_aload_n (j := 2) rfl rfl dX12_boardLine_34 ?_
    refine r_ldcS (j := 30) rfl dX12_boardLine_35 ?_
    try unfold C_X12_must at hf
    obtain ⟨⟨fs_r33, ha_r33⟩, hf⟩ := hf
    refine r_invVU (t := 12) (As := [aR (some (gK G 30))]) (dz := d) (mz := 0) (sz := 0) rfl wd_7_139 wd_7_141 wd_p_59 cf_X12_must (Nat.le_refl _) (Nat.zero_le _) (Nat.zero_le _) (cat_ok (Nat.le_of_ble_eq_true rfl)) rfl rfl ha_r33 dX12_boardLine_37 hf (fun σ32 hk => ?_)
    replace hf := hk
    clear hk
    refine r_aload_n (j := 2) rfl rfl dX12_boardLine_40 ?_
    refine r_iconst (v := 1) (by decide) dX12_boardLine_41 ?_
    refine r_iconst (v := 4) (by decide) dX12_boardLine_42 ?_
    try unfold C_X12_numberHere at hf
    obtain ⟨⟨fs_r35, ha_r35⟩, hf⟩ := hf
    refine r_invVI (t := 12) (As := [aI 1, aI 4]) (dz := d) (mz := 0) (sz := 0) rfl wd_7_169 wd_7_171 wd_p_65 cf_X12_numberHere (Nat.le_refl _) (Nat.zero_le _) (Nat.zero_le _) (cat_ok (Nat.le_of_ble_eq_true rfl)) rfl rfl ha_r35 dX12_boardLine_43 hf (fun r35 σ34 hk => ?_)
    replace hf := hk
    clear hk
    refine r_istore_n (L' := [(3, aI r35), (2, aI r31), (1, aI x25), (0, aR (some v0))]) rfl rfl (Nat.le_of_ble_eq_true rfl) dX12_boardLine_46 ?_
    refine r_aload_n (j := 3) rfl rfl dX12_boardLine_47 ?_
    obtain ⟨fs_x36, x36, ha_x36, hv_x36, hf⟩ := hf
    refine r_get (Cn := RX12) (Tt := TX12) (N := 42) (n := 13) rfl uw_X12 (Nat.le_of_ble_eq_true rfl) wd_6_199 ha_x36 hv_x36 dX12_boardLine_48 ?_
    refine r_ifneZ (b := x36) (tgt := 78) (by decide) dX12_boardLine_51 (fun hc => ?_) (fun hc => ?_)
    · replace hf := hf.1 hc
      exact r_sub [3, 2, 1, 0] rfl (b_X12_boardLine_78 hf)
    · replace hf := hf.2 hc
      refine r_aload_n (j := 3) rfl rfl dX12_boardLine_54 ?_
      obtain ⟨fs_x37, x37, ha_x37, hv_x37, hf⟩ := hf
      refine r_get (Cn := RX12) (Tt := TX12) (N := 42) (n := 16) rfl uw_X12 (Nat.le_of_ble_eq_true rfl) wd_6_202 ha_x37 hv_x37 dX12_boardLine_55 ?_
      refine r_iconst (v := 5) (by decide) dX12_boardLine_58 ?_
      obtain ⟨N_x38, f_x38, ha_x38, hi_x38, hf⟩ := hf
      refine r_iald ha_x38 hi_x38 dX12_boardLine_59 ?_
      generalize f_x38 (5 : Int32).toNatClampNeg = x38 at hf ⊢
      refine r_iload_n (j := 1) rfl rfl dX12_boardLine_60 ?_
      refine r_iload_n (j := 0) rfl rfl dX12_boardLine_61 ?_
      refine r_imul (x := r31) (y := r35) dX12_boardLine_62 ?_
      refine r_iadd (x := x38) (y := (r31 * r35)) dX12_boardLine_63 ?_
      refine r_bipush (v := 14) (by decide) dX12_boardLine_64 ?_
      refine r_icmple (x := (x38 + (r31 * r35))) (y := 14) (tgt := 78) (by decide) dX12_boardLine_66 (fun hc => ?_) (fun hc => ?_)
      · replace hf := hf.1 hc
        exact r_sub [3, 2, 1, 0] rfl (b_X12_boardLine_78 hf)
      · replace hf := hf.2 hc
        refine r_aload_n (j := 3) rfl rfl dX12_boardLine_69 ?_
        refine r_iconst (v := 4) (by decide) dX12_boardLine_70 ?_
        refine r_aload_n (j := 3) rfl rfl dX12_boardLine_71 ?_
        obtain ⟨fs_x39, x39, ha_x39, hv_x39, hf⟩ := hf
        refine r_get (Cn := RX12) (Tt := TX12) (N := 42) (n := 4) rfl uw_X12 (Nat.le_of_ble_eq_true rfl) wd_6_190 ha_x39 hv_x39 dX12_boardLine_72 ?_
        try unfold C_X12_wrong at hf
        obtain ⟨⟨fs_r41, ha_r41⟩, hf⟩ := hf
        refine r_invVU (t := 12) (As := [aI 4, aI x39]) (dz := d) (mz := 0) (sz := 0) rfl wd_7_125 wd_7_127 wd_p_56 cf_X12_wrong (Nat.le_refl _) (Nat.zero_le _) (Nat.zero_le _) (cat_ok (Nat.le_of_ble_eq_true rfl)) rfl rfl ha_r41 dX12_boardLine_75 hf (fun σ40 hk => ?_)
        replace hf := hk
        clear hk
        exact r_sub [3, 2, 1, 0] rfl (b_X12_boardLine_78 hf)
  · replace hf := hf.2 hc
    exact r_return rfl dX12_boardLine_7 rfl ⟨rfl, hf⟩
theorem m_X12_boardLine {l : Launch} {G : GG} {d : Nat} {v0 : Nat} {σ : Hp} {K : Hp → Prop} (hr : rv σ v0 12) (hf : F_X12_boardLine l G d v0 σ K) : C_X12_boardLine l G (d + 1) v0 σ K := ⟨hr, Sp.of (by decide) (Nat.le_of_ble_eq_true rfl) (b_X12_boardLine_0 hf) rfl⟩
def F_X12_jugLine_159 (l : Launch) (G : GG) (d : Nat) (v0 : Nat) (v4 : Int32) (σ : Hp) (K : Hp → Prop) : Prop :=
  fZ σ v0 12 13 fun x1 =>
  (x1 = false →
    C_X12_next l G d v0 σ fun σ2 =>
    fN σ2 v0 12 16 fun x4 =>
    gI σ2 x4 16 fun x5 =>
    sI σ2 x4 16 (x5 ||| (1 <<< (v4 &&& 31))) fun σ6 =>
    fN σ6 v0 12 16 fun x8 =>
    gI σ6 x8 6 fun x9 =>
    sI σ6 x8 6 (x9 + 1) fun σ10 =>
    K σ10) ∧
  (x1 = true →
    K σ)
set_option maxRecDepth 100000 in
set_option maxHeartbeats 4000000 in
theorem b_X12_jugLine_159 {l : Launch} {G : GG} {d : Nat} {v0 : Nat} {v4 : Int32} {σ : Hp} {K : Hp → Prop} (hf : F_X12_jugLine_159 l G d v0 v4 σ K) : Wd l G (d + 1) "CoinsLaidModel" yX12_jugLine cX12_jugLine 5 none 159 [(0, aR (some v0)), (4, aI v4)] [] σ 0 0 (xM (QV K)) := by
  unfold F_X12_jugLine_159 at hf
  refine r_aload_n (j := 0) rfl rfl dX12_jugLine_159 ?_
  obtain ⟨fs_x1, x1, ha_x1, hv_x1, hf⟩ := hf
  refine r_get (Cn := RX12) (Tt := TX12) (N := 42) (n := 13) rfl uw_X12 (Nat.le_of_ble_eq_true rfl) wd_6_199 ha_x1 hv_x1 dX12_jugLine_160 ?_
  refine r_ifeqZ (b := x1) (tgt := 167) (by decide) dX12_jugLine_163 (fun hc => ?_) (fun hc => ?_)
  · replace hf := hf.1 hc
    refine r_aload_n (j := 0) rfl rfl dX12_jugLine_167 ?_
    try unfold C_X12_next at hf
    obtain ⟨⟨fs_r3, ha_r3⟩, hf⟩ := hf
    refine r_invVU (t := 12) (As := []) (dz := d) (mz := 0) (sz := 0) rfl wd_7_96 wd_7_98 wd_p_51 cf_X12_next (Nat.le_refl _) (Nat.zero_le _) (Nat.zero_le _) (cat_ok (Nat.le_of_ble_eq_true rfl)) rfl rfl ha_r3 dX12_jugLine_168 hf (fun σ2 hk => ?_)
    replace hf := hk
    clear hk
    refine r_aload_n (j := 0) rfl rfl dX12_jugLine_171 ?_
    obtain ⟨fs_x4, x4, ha_x4, hv_x4, hf⟩ := hf
    refine r_get (Cn := RX12) (Tt := TX12) (N := 42) (n := 16) rfl uw_X12 (Nat.le_of_ble_eq_true rfl) wd_6_202 ha_x4 hv_x4 dX12_jugLine_172 ?_
    refine r_bipush (v := 16) (by decide) dX12_jugLine_175 ?_
    refine r_dup2 rfl rfl dX12_jugLine_177 ?_
    obtain ⟨N_x5, f_x5, ha_x5, hi_x5, hf⟩ := hf
    refine r_iald ha_x5 hi_x5 dX12_jugLine_178 ?_
    generalize f_x5 (16 : Int32).toNatClampNeg = x5 at hf ⊢
    refine r_iconst (v := 1) (by decide) dX12_jugLine_179 ?_
    refine r_iload (j := 1) rfl dX12_jugLine_180 ?_
    refine r_ishl (x := 1) (y := v4) dX12_jugLine_182 ?_
    refine r_ior (x := x5) (y := (1 <<< (v4 &&& 31))) dX12_jugLine_183 ?_
    obtain ⟨N_x7, f_x7, ha_x7, hi_x7, hf⟩ := hf
    generalize hσ6 : hset σ2 x4 (iA N_x7 (up_ f_x7 (16 : Int32).toNatClampNeg (x5 ||| (1 <<< (v4 &&& 31))))) = σ6 at hf
    refine r_iast (f := f_x7) (x := (x5 ||| (1 <<< (v4 &&& 31)))) ha_x7 hi_x7 dX12_jugLine_184 ?_
    refine Eq.mpr (congrArg (fun z => Wd _ _ _ _ _ _ _ _ _ _ _ z _ _ _) hσ6) ?_
    refine r_aload_n (j := 0) rfl rfl dX12_jugLine_185 ?_
    obtain ⟨fs_x8, x8, ha_x8, hv_x8, hf⟩ := hf
    refine r_get (Cn := RX12) (Tt := TX12) (N := 42) (n := 16) rfl uw_X12 (Nat.le_of_ble_eq_true rfl) wd_6_202 ha_x8 hv_x8 dX12_jugLine_186 ?_
    refine r_bipush (v := 6) (by decide) dX12_jugLine_189 ?_
    refine r_dup2 rfl rfl dX12_jugLine_191 ?_
    obtain ⟨N_x9, f_x9, ha_x9, hi_x9, hf⟩ := hf
    refine r_iald ha_x9 hi_x9 dX12_jugLine_192 ?_
    generalize f_x9 (6 : Int32).toNatClampNeg = x9 at hf ⊢
    refine r_iconst (v := 1) (by decide) dX12_jugLine_193 ?_
    refine r_iadd (x := x9) (y := 1) dX12_jugLine_194 ?_
    obtain ⟨N_x11, f_x11, ha_x11, hi_x11, hf⟩ := hf
    generalize hσ10 : hset σ6 x8 (iA N_x11 (up_ f_x11 (6 : Int32).toNatClampNeg (x9 + 1))) = σ10 at hf
    refine r_iast (f := f_x11) (x := (x9 + 1)) ha_x11 hi_x11 dX12_jugLine_195 ?_
    refine Eq.mpr (congrArg (fun z => Wd _ _ _ _ _ _ _ _ _ _ _ z _ _ _) hσ10) ?_
    exact r_return rfl dX12_jugLine_196 rfl ⟨rfl, hf⟩
  · replace hf := hf.2 hc
    exact r_return rfl dX12_jugLine_166 rfl ⟨rfl, hf⟩
def F_X12_jugLine_53 (l : Launch) (G : GG) (d : Nat) (v0 : Nat) (v1 : Int32) (σ : Hp) (K : Hp → Prop) : Prop :=
  fZ σ v0 12 13 fun x12 =>
  (x12 = false →
    C_X12_next l G d v0 σ fun σ13 =>
    fN σ13 v0 12 16 fun x15 =>
    gI σ13 x15 (7 + v1) fun x16 =>
    C_X12_number l G d v0 0 (x16 - 1) σ13 fun r18 σ17 =>
    C_X12_mustComma l G d v0 σ17 fun σ19 =>
    fN σ19 v0 12 16 fun x21 =>
    gI σ19 x21 (10 + v1) fun x22 =>
    C_X12_numberHere l G d v0 0 (x22 - 1) σ19 fun r24 σ23 =>
    fN σ23 v0 12 16 fun x25 =>
    gI σ23 x25 (13 + v1) fun x26 =>
    fN σ23 v0 12 16 fun x27 =>
    gI σ23 x27 (7 + v1) fun x28 =>
    fZ σ23 v0 12 13 fun x29 =>
    (x29 = true →
      F_X12_jugLine_159 l G d v0 ((x26 + (x28 * r24)) + r18) σ23 K) ∧
    (x29 = false →
      fN σ23 v0 12 16 fun x30 =>
      gI σ23 x30 16 fun x31 =>
      C_X12_hasBit l G d x31 ((x26 + (x28 * r24)) + r18) σ23 fun r33 σ32 =>
      (r33 = false →
        F_X12_jugLine_159 l G d v0 ((x26 + (x28 * r24)) + r18) σ32 K) ∧
      (r33 = true →
        fI σ32 v0 12 4 fun x34 =>
        C_X12_wrong l G d v0 3 x34 σ32 fun σ35 =>
        F_X12_jugLine_159 l G d v0 ((x26 + (x28 * r24)) + r18) σ35 K))) ∧
  (x12 = true →
    K σ)
set_option maxRecDepth 100000 in
set_option maxHeartbeats 4000000 in
theorem b_X12_jugLine_53 {l : Launch} {G : GG} {d : Nat} {v0 : Nat} {v1 : Int32} {σ : Hp} {K : Hp → Prop} (hf : F_X12_jugLine_53 l G d v0 v1 σ K) : Wd l G (d + 1) "CoinsLaidModel" yX12_jugLine cX12_jugLine 5 none 53 [(0, aR (some v0)), (1, aI v1)] [] σ 0 0 (xM (QV K)) := by
  unfold F_X12_jugLine_53 at hf
  refine r_aload_n (j := 0) rfl rfl dX12_jugLine_53 ?_
  obtain ⟨fs_x12, x12, ha_x12, hv_x12, hf⟩ := hf
  refine r_get (Cn := RX12) (Tt := TX12) (N := 42) (n := 13) rfl uw_X12 (Nat.le_of_ble_eq_true rfl) wd_6_199 ha_x12 hv_x12 dX12_jugLine_54 ?_
  refine r_ifeqZ (b := x12) (tgt := 61) (by decide) dX12_jugLine_57 (fun hc => ?_) (fun hc => ?_)
  · replace hf := hf.1 hc
    refine r_aload_n (j := 0) rfl rfl dX12_jugLine_61 ?_
    try unfold C_X12_next at hf
    obtain ⟨⟨fs_r14, ha_r14⟩, hf⟩ := hf
    refine r_invVU (t := 12) (As := []) (dz := d) (mz := 0) (sz := 0) rfl wd_7_96 wd_7_98 wd_p_51 cf_X12_next (Nat.le_refl _) (Nat.zero_le _) (Nat.zero_le _) (cat_ok (Nat.le_of_ble_eq_true rfl)) rfl rfl ha_r14 dX12_jugLine_62 hf (fun σ13 hk => ?_)
    replace hf := hk
    clear hk
    refine r_aload_n (j := 0) rfl rfl dX12_jugLine_65 ?_
    refine r_iconst (v := 0) (by decide) dX12_jugLine_66 ?_
    refine r_aload_n (j := 0) rfl rfl dX12_jugLine_67 ?_
    obtain ⟨fs_x15, x15, ha_x15, hv_x15, hf⟩ := hf
    refine r_get (Cn := RX12) (Tt := TX12) (N := 42) (n := 16) rfl uw_X12 (Nat.le_of_ble_eq_true rfl) wd_6_202 ha_x15 hv_x15 dX12_jugLine_68 ?_
    refine r_bipush (v := 7) (by decide) dX12_jugLine_71 ?_
    refine r_iload_n (j := 1) rfl rfl dX12_jugLine_73 ?_
    refine r_iadd (x := 7) (y := v1) dX12_jugLine_74 ?_
    obtain ⟨N_x16, f_x16, ha_x16, hi_x16, hf⟩ := hf
    refine r_iald ha_x16 hi_x16 dX12_jugLine_75 ?_
    generalize f_x16 ((7 + v1) : Int32).toNatClampNeg = x16 at hf ⊢
    refine r_iconst (v := 1) (by decide) dX12_jugLine_76 ?_
    refine r_isub (x := x16) (y := 1) dX12_jugLine_77 ?_
    try unfold C_X12_number at hf
    obtain ⟨⟨fs_r18, ha_r18⟩, hf⟩ := hf
    refine r_invVI (t := 12) (As := [aI 0, aI (x16 - 1)]) (dz := d) (mz := 0) (sz := 0) rfl wd_7_165 wd_7_167 wd_p_64 cf_X12_number (Nat.le_refl _) (Nat.zero_le _) (Nat.zero_le _) (cat_ok (Nat.le_of_ble_eq_true rfl)) rfl rfl ha_r18 dX12_jugLine_78 hf (fun r18 σ17 hk => ?_)
    replace hf := hk
    clear hk
    refine r_istore_n (L' := [(2, aI r18), (0, aR (some v0)), (1, aI v1)]) rfl rfl (Nat.le_of_ble_eq_true rfl) dX12_jugLine_81 ?_
    refine r_aload_n (j := 1) rfl rfl dX12_jugLine_82 ?_
    try unfold C_X12_mustComma at hf
    obtain ⟨⟨fs_r20, ha_r20⟩, hf⟩ := hf
    refine r_invVU (t := 12) (As := []) (dz := d) (mz := 0) (sz := 0) rfl wd_7_178 wd_7_180 wd_p_67 cf_X12_mustComma (Nat.le_refl _) (Nat.zero_le _) (Nat.zero_le _) (cat_ok (Nat.le_of_ble_eq_true rfl)) rfl rfl ha_r20 dX12_jugLine_83 hf (fun σ19 hk => ?_)
    replace hf := hk
    clear hk
    refine r_aload_n (j := 1) rfl rfl dX12_jugLine_86 ?_
    refine r_iconst (v := 0) (by decide) dX12_jugLine_87 ?_
    refine r_aload_n (j := 1) rfl rfl dX12_jugLine_88 ?_
    obtain ⟨fs_x21, x21, ha_x21, hv_x21, hf⟩ := hf
    refine r_get (Cn := RX12) (Tt := TX12) (N := 42) (n := 16) rfl uw_X12 (Nat.le_of_ble_eq_true rfl) wd_6_202 ha_x21 hv_x21 dX12_jugLine_89 ?_
    refine r_bipush (v := 10) (by decide) dX12_jugLine_92 ?_
    refine r_iload_n (j := 2) rfl rfl dX12_jugLine_94 ?_
    refine r_iadd (x := 10) (y := v1) dX12_jugLine_95 ?_
    obtain ⟨N_x22, f_x22, ha_x22, hi_x22, hf⟩ := hf
    refine r_iald ha_x22 hi_x22 dX12_jugLine_96 ?_
    generalize f_x22 ((10 + v1) : Int32).toNatClampNeg = x22 at hf ⊢
    refine r_iconst (v := 1) (by decide) dX12_jugLine_97 ?_
    refine r_isub (x := x22) (y := 1) dX12_jugLine_98 ?_
    try unfold C_X12_numberHere at hf
    obtain ⟨⟨fs_r24, ha_r24⟩, hf⟩ := hf
    refine r_invVI (t := 12) (As := [aI 0, aI (x22 - 1)]) (dz := d) (mz := 0) (sz := 0) rfl wd_7_169 wd_7_171 wd_p_65 cf_X12_numberHere (Nat.le_refl _) (Nat.zero_le _) (Nat.zero_le _) (cat_ok (Nat.le_of_ble_eq_true rfl)) rfl rfl ha_r24 dX12_jugLine_99 hf (fun r24 σ23 hk => ?_)
    replace hf := hk
    clear hk
    refine r_istore_n (L' := [(3, aI r24), (2, aI r18), (0, aR (some v0)), (1, aI v1)]) rfl rfl (Nat.le_of_ble_eq_true rfl) dX12_jugLine_102 ?_
    refine r_aload_n (j := 2) rfl rfl dX12_jugLine_103 ?_
    obtain ⟨fs_x25, x25, ha_x25, hv_x25, hf⟩ := hf
    refine r_get (Cn := RX12) (Tt := TX12) (N := 42) (n := 16) rfl uw_X12 (Nat.le_of_ble_eq_true rfl) wd_6_202 ha_x25 hv_x25 dX12_jugLine_104 ?_
    refine r_bipush (v := 13) (by decide) dX12_jugLine_107 ?_
    refine r_iload_n (j := 3) rfl rfl dX12_jugLine_109 ?_
    refine r_iadd (x := 13) (y := v1) dX12_jugLine_110 ?_
    obtain ⟨N_x26, f_x26, ha_x26, hi_x26, hf⟩ := hf
    refine r_iald ha_x26 hi_x26 dX12_jugLine_111 ?_
    generalize f_x26 ((13 + v1) : Int32).toNatClampNeg = x26 at hf ⊢
    refine r_aload_n (j := 2) rfl rfl dX12_jugLine_112 ?_
    obtain ⟨fs_x27, x27, ha_x27, hv_x27, hf⟩ := hf
    refine r_get (Cn := RX12) (Tt := TX12) (N := 42) (n := 16) rfl uw_X12 (Nat.le_of_ble_eq_true rfl) wd_6_202 ha_x27 hv_x27 dX12_jugLine_113 ?_
    refine r_bipush (v := 7) (by decide) dX12_jugLine_116 ?_
    refine r_iload_n (j := 3) rfl rfl dX12_jugLine_118 ?_
    refine r_iadd (x := 7) (y := v1) dX12_jugLine_119 ?_
    obtain ⟨N_x28, f_x28, ha_x28, hi_x28, hf⟩ := hf
    refine r_iald ha_x28 hi_x28 dX12_jugLine_120 ?_
    generalize f_x28 ((7 + v1) : Int32).toNatClampNeg = x28 at hf ⊢
    refine r_iload_n (j := 0) rfl rfl dX12_jugLine_121 ?_
    refine r_imul (x := x28) (y := r24) dX12_jugLine_122 ?_
    refine r_iadd (x := x26) (y := (x28 * r24)) dX12_jugLine_123 ?_
    refine r_iload_n (j := 1) rfl rfl dX12_jugLine_124 ?_
    refine r_iadd (x := (x26 + (x28 * r24))) (y := r18) dX12_jugLine_125 ?_
    refine r_istore (L' := [(4, aI ((x26 + (x28 * r24)) + r18)), (3, aI r24), (2, aI r18), (0, aR (some v0)), (1, aI v1)]) rfl (Nat.le_of_ble_eq_true rfl) dX12_jugLine_126 ?_
    refine r_aload_n (j := 3) rfl rfl dX12_jugLine_128 ?_
    obtain ⟨fs_x29, x29, ha_x29, hv_x29, hf⟩ := hf
    refine r_get (Cn := RX12) (Tt := TX12) (N := 42) (n := 13) rfl uw_X12 (Nat.le_of_ble_eq_true rfl) wd_6_199 ha_x29 hv_x29 dX12_jugLine_129 ?_
    refine r_ifneZ (b := x29) (tgt := 159) (by decide) dX12_jugLine_132 (fun hc => ?_) (fun hc => ?_)
    · replace hf := hf.1 hc
      exact r_sub [3, 0] rfl (b_X12_jugLine_159 hf)
    · replace hf := hf.2 hc
      refine r_aload_n (j := 3) rfl rfl dX12_jugLine_135 ?_
      obtain ⟨fs_x30, x30, ha_x30, hv_x30, hf⟩ := hf
      refine r_get (Cn := RX12) (Tt := TX12) (N := 42) (n := 16) rfl uw_X12 (Nat.le_of_ble_eq_true rfl) wd_6_202 ha_x30 hv_x30 dX12_jugLine_136 ?_
      refine r_bipush (v := 16) (by decide) dX12_jugLine_139 ?_
      obtain ⟨N_x31, f_x31, ha_x31, hi_x31, hf⟩ := hf
      refine r_iald ha_x31 hi_x31 dX12_jugLine_141 ?_
      generalize f_x31 (16 : Int32).toNatClampNeg = x31 at hf ⊢
      refine r_iload (j := 0) rfl dX12_jugLine_142 ?_
      try unfold C_X12_hasBit at hf
      refine r_invSZ (As := [aI x31, aI ((x26 + (x28 * r24)) + r18)]) (dz := d) (mz := 0) (sz := 0) rfl wd_7_182 wd_7_183 cf_X12_hasBit (Nat.le_refl _) (Nat.zero_le _) (Nat.zero_le _) (cat_ok (Nat.le_of_ble_eq_true rfl)) dX12_jugLine_144 hf (fun r33 σ32 hk => ?_)
      replace hf := hk
      clear hk
      refine r_ifeqZ (b := r33) (tgt := 159) (by decide) dX12_jugLine_147 (fun hc => ?_) (fun hc => ?_)
      · replace hf := hf.1 hc
        exact r_sub [3, 0] rfl (b_X12_jugLine_159 hf)
      · replace hf := hf.2 hc
        refine r_aload_n (j := 3) rfl rfl dX12_jugLine_150 ?_
        refine r_iconst (v := 3) (by decide) dX12_jugLine_151 ?_
        refine r_aload_n (j := 3) rfl rfl dX12_jugLine_152 ?_
        obtain ⟨fs_x34, x34, ha_x34, hv_x34, hf⟩ := hf
        refine r_get (Cn := RX12) (Tt := TX12) (N := 42) (n := 4) rfl uw_X12 (Nat.le_of_ble_eq_true rfl) wd_6_190 ha_x34 hv_x34 dX12_jugLine_153 ?_
        try unfold C_X12_wrong at hf
        obtain ⟨⟨fs_r36, ha_r36⟩, hf⟩ := hf
        refine r_invVU (t := 12) (As := [aI 3, aI x34]) (dz := d) (mz := 0) (sz := 0) rfl wd_7_125 wd_7_127 wd_p_56 cf_X12_wrong (Nat.le_refl _) (Nat.zero_le _) (Nat.zero_le _) (cat_ok (Nat.le_of_ble_eq_true rfl)) rfl rfl ha_r36 dX12_jugLine_156 hf (fun σ35 hk => ?_)
        replace hf := hk
        clear hk
        exact r_sub [3, 0] rfl (b_X12_jugLine_159 hf)
  · replace hf := hf.2 hc
    exact r_return rfl dX12_jugLine_60 rfl ⟨rfl, hf⟩
def F_X12_jugLine_27 (l : Launch) (G : GG) (d : Nat) (v0 : Nat) (s0 : Int32) (σ : Hp) (K : Hp → Prop) : Prop :=
  fZ σ v0 12 13 fun x37 =>
  (x37 = true →
    F_X12_jugLine_53 l G d v0 s0 σ K) ∧
  (x37 = false →
    C_X12_within l G d s0 0 2 σ fun r39 σ38 =>
    (r39 = true →
      F_X12_jugLine_53 l G d v0 s0 σ38 K) ∧
    (r39 = false →
      fI σ38 v0 12 4 fun x40 =>
      C_X12_wrong l G d v0 2 x40 σ38 fun σ41 =>
      F_X12_jugLine_53 l G d v0 s0 σ41 K))
set_option maxRecDepth 100000 in
set_option maxHeartbeats 4000000 in
theorem b_X12_jugLine_27 {l : Launch} {G : GG} {d : Nat} {v0 : Nat} {s0 : Int32} {σ : Hp} {K : Hp → Prop} (hf : F_X12_jugLine_27 l G d v0 s0 σ K) : Wd l G (d + 1) "CoinsLaidModel" yX12_jugLine cX12_jugLine 5 none 27 [(0, aR (some v0))] [aI s0] σ 0 0 (xM (QV K)) := by
  unfold F_X12_jugLine_27 at hf
  refine r_istore_n (L' := [(1, aI s0), (0, aR (some v0))]) rfl rfl (Nat.le_of_ble_eq_true rfl) dX12_jugLine_27 ?_
  refine r_aload_n (j := 1) rfl rfl dX12_jugLine_28 ?_
  obtain ⟨fs_x37, x37, ha_x37, hv_x37, hf⟩ := hf
  refine r_get (Cn := RX12) (Tt := TX12) (N := 42) (n := 13) rfl uw_X12 (Nat.le_of_ble_eq_true rfl) wd_6_199 ha_x37 hv_x37 dX12_jugLine_29 ?_
  refine r_ifneZ (b := x37) (tgt := 53) (by decide) dX12_jugLine_32 (fun hc => ?_) (fun hc => ?_)
  · replace hf := hf.1 hc
    exact r_sub [1, 0] rfl (b_X12_jugLine_53 hf)
  · replace hf := hf.2 hc
    refine r_iload_n (j := 0) rfl rfl dX12_jugLine_35 ?_
    refine r_iconst (v := 0) (by decide) dX12_jugLine_36 ?_
    refine r_iconst (v := 2) (by decide) dX12_jugLine_37 ?_
    try unfold C_X12_within at hf
    refine r_invSZ (As := [aI s0, aI 0, aI 2]) (dz := d) (mz := 0) (sz := 0) rfl wd_7_89 wd_7_90 cf_X12_within (Nat.le_refl _) (Nat.zero_le _) (Nat.zero_le _) (cat_ok (Nat.le_of_ble_eq_true rfl)) dX12_jugLine_38 hf (fun r39 σ38 hk => ?_)
    replace hf := hk
    clear hk
    refine r_ifneZ (b := r39) (tgt := 53) (by decide) dX12_jugLine_41 (fun hc => ?_) (fun hc => ?_)
    · replace hf := hf.1 hc
      exact r_sub [1, 0] rfl (b_X12_jugLine_53 hf)
    · replace hf := hf.2 hc
      refine r_aload_n (j := 1) rfl rfl dX12_jugLine_44 ?_
      refine r_iconst (v := 2) (by decide) dX12_jugLine_45 ?_
      refine r_aload_n (j := 1) rfl rfl dX12_jugLine_46 ?_
      obtain ⟨fs_x40, x40, ha_x40, hv_x40, hf⟩ := hf
      refine r_get (Cn := RX12) (Tt := TX12) (N := 42) (n := 4) rfl uw_X12 (Nat.le_of_ble_eq_true rfl) wd_6_190 ha_x40 hv_x40 dX12_jugLine_47 ?_
      try unfold C_X12_wrong at hf
      obtain ⟨⟨fs_r42, ha_r42⟩, hf⟩ := hf
      refine r_invVU (t := 12) (As := [aI 2, aI x40]) (dz := d) (mz := 0) (sz := 0) rfl wd_7_125 wd_7_127 wd_p_56 cf_X12_wrong (Nat.le_refl _) (Nat.zero_le _) (Nat.zero_le _) (cat_ok (Nat.le_of_ble_eq_true rfl)) rfl rfl ha_r42 dX12_jugLine_50 hf (fun σ41 hk => ?_)
      replace hf := hk
      clear hk
      exact r_sub [1, 0] rfl (b_X12_jugLine_53 hf)
def F_X12_jugLine (l : Launch) (G : GG) (d : Nat) (v0 : Nat) (σ : Hp) (K : Hp → Prop) : Prop :=
  fZ σ v0 12 13 fun x43 =>
  (x43 = false →
    C_X12_mustName l G d v0 σ fun σ44 =>
    fZ σ44 v0 12 13 fun x46 =>
    (x46 = false →
      C_X12_find l G d v0 σ44 fun r48 σ47 =>
      F_X12_jugLine_27 l G d v0 r48 σ47 K) ∧
    (x46 = true →
      F_X12_jugLine_27 l G d v0 0 σ44 K)) ∧
  (x43 = true →
    K σ)
set_option maxRecDepth 100000 in
set_option maxHeartbeats 4000000 in
theorem b_X12_jugLine_0 {l : Launch} {G : GG} {d : Nat} {v0 : Nat} {σ : Hp} {K : Hp → Prop} (hf : F_X12_jugLine l G d v0 σ K) : Wd l G (d + 1) "CoinsLaidModel" yX12_jugLine cX12_jugLine 5 none 0 [(0, aR (some v0))] [] σ 0 0 (xM (QV K)) := by
  unfold F_X12_jugLine at hf
  refine r_aload_n (j := 0) rfl rfl dX12_jugLine_0 ?_
  obtain ⟨fs_x43, x43, ha_x43, hv_x43, hf⟩ := hf
  refine r_get (Cn := RX12) (Tt := TX12) (N := 42) (n := 13) rfl uw_X12 (Nat.le_of_ble_eq_true rfl) wd_6_199 ha_x43 hv_x43 dX12_jugLine_1 ?_
  refine r_ifeqZ (b := x43) (tgt := 8) (by decide) dX12_jugLine_4 (fun hc => ?_) (fun hc => ?_)
  · replace hf := hf.1 hc
    refine r_aload_n (j := 0) rfl rfl dX12_jugLine_8 ?_
    try unfold C_X12_mustName at hf
    obtain ⟨⟨fs_r45, ha_r45⟩, hf⟩ := hf
    refine r_invVU (t := 12) (As := []) (dz := d) (mz := 0) (sz := 0) rfl wd_7_153 wd_7_155 wd_p_62 cf_X12_mustName (Nat.le_refl _) (Nat.zero_le _) (Nat.zero_le _) (cat_ok (Nat.le_of_ble_eq_true rfl)) rfl rfl ha_r45 dX12_jugLine_9 hf (fun σ44 hk => ?_)
    replace hf := hk
    clear hk
    refine r_aload_n (j := 0) rfl rfl dX12_jugLine_12 ?_
    obtain ⟨fs_x46, x46, ha_x46, hv_x46, hf⟩ := hf
    refine r_get (Cn := RX12) (Tt := TX12) (N := 42) (n := 13) rfl uw_X12 (Nat.le_of_ble_eq_true rfl) wd_6_199 ha_x46 hv_x46 dX12_jugLine_13 ?_
    refine r_ifeqZ (b := x46) (tgt := 23) (by decide) dX12_jugLine_16 (fun hc => ?_) (fun hc => ?_)
    · replace hf := hf.1 hc
      refine r_aload_n (j := 0) rfl rfl dX12_jugLine_23 ?_
      try unfold C_X12_find at hf
      obtain ⟨⟨fs_r48, ha_r48⟩, hf⟩ := hf
      refine r_invVI (t := 12) (As := []) (dz := d) (mz := 0) (sz := 0) rfl wd_7_160 wd_7_162 wd_p_63 cf_X12_find (Nat.le_refl _) (Nat.zero_le _) (Nat.zero_le _) (cat_ok (Nat.le_of_ble_eq_true rfl)) rfl rfl ha_r48 dX12_jugLine_24 hf (fun r48 σ47 hk => ?_)
      replace hf := hk
      clear hk
      exact r_sub [0] rfl (b_X12_jugLine_27 hf)
    · replace hf := hf.2 hc
      refine r_iconst (v := 0) (by decide) dX12_jugLine_19 ?_
      refine r_goto (tgt := 27) (by decide) dX12_jugLine_20 ?_
      exact r_sub [0] rfl (b_X12_jugLine_27 hf)
  · replace hf := hf.2 hc
    exact r_return rfl dX12_jugLine_7 rfl ⟨rfl, hf⟩
theorem m_X12_jugLine {l : Launch} {G : GG} {d : Nat} {v0 : Nat} {σ : Hp} {K : Hp → Prop} (hr : rv σ v0 12) (hf : F_X12_jugLine l G d v0 σ K) : C_X12_jugLine l G (d + 1) v0 σ K := ⟨hr, Sp.of (by decide) (Nat.le_of_ble_eq_true rfl) (b_X12_jugLine_0 hf) rfl⟩
def F_X12_pieceLine_281 (l : Launch) (G : GG) (d : Nat) (σ : Hp) (K : Hp → Prop) : Prop :=
  K σ
set_option maxRecDepth 100000 in
set_option maxHeartbeats 4000000 in
theorem b_X12_pieceLine_281 {l : Launch} {G : GG} {d : Nat} {σ : Hp} {K : Hp → Prop} (hf : F_X12_pieceLine_281 l G d  σ K) : Wd l G (d + 1) "CoinsLaidModel" yX12_pieceLine cX12_pieceLine 3 none 281 [] [] σ 0 0 (xM (QV K)) := by
  unfold F_X12_pieceLine_281 at hf
  exact r_return rfl dX12_pieceLine_281 rfl ⟨rfl, hf⟩
def F_X12_pieceLine_263 (l : Launch) (G : GG) (d : Nat) (v0 : Nat) (s0 : Nat) (s1 : Int32) (s2 : Int32) (σ : Hp) (K : Hp → Prop) : Prop :=
  sI σ s0 s1 s2 fun σ1 =>
  fZ σ1 v0 12 13 fun x3 =>
  (x3 = true →
    F_X12_pieceLine_281 l G d σ1 K) ∧
  (x3 = false →
    fN σ1 v0 12 16 fun x4 =>
    gI σ1 x4 4 fun x5 =>
    sI σ1 x4 4 (x5 + 1) fun σ6 =>
    F_X12_pieceLine_281 l G d σ6 K)
set_option maxRecDepth 100000 in
set_option maxHeartbeats 4000000 in
theorem b_X12_pieceLine_263 {l : Launch} {G : GG} {d : Nat} {v0 : Nat} {s0 : Nat} {s1 : Int32} {s2 : Int32} {σ : Hp} {K : Hp → Prop} (hf : F_X12_pieceLine_263 l G d v0 s0 s1 s2 σ K) : Wd l G (d + 1) "CoinsLaidModel" yX12_pieceLine cX12_pieceLine 3 none 263 [(0, aR (some v0))] [aI s2, aI s1, aR (some s0)] σ 0 0 (xM (QV K)) := by
  unfold F_X12_pieceLine_263 at hf
  obtain ⟨N_x2, f_x2, ha_x2, hi_x2, hf⟩ := hf
  generalize hσ1 : hset σ s0 (iA N_x2 (up_ f_x2 (s1 : Int32).toNatClampNeg s2)) = σ1 at hf
  refine r_iast (f := f_x2) (x := s2) ha_x2 hi_x2 dX12_pieceLine_263 ?_
  refine Eq.mpr (congrArg (fun z => Wd _ _ _ _ _ _ _ _ _ _ _ z _ _ _) hσ1) ?_
  refine r_aload_n (j := 0) rfl rfl dX12_pieceLine_264 ?_
  obtain ⟨fs_x3, x3, ha_x3, hv_x3, hf⟩ := hf
  refine r_get (Cn := RX12) (Tt := TX12) (N := 42) (n := 13) rfl uw_X12 (Nat.le_of_ble_eq_true rfl) wd_6_199 ha_x3 hv_x3 dX12_pieceLine_265 ?_
  refine r_ifneZ (b := x3) (tgt := 281) (by decide) dX12_pieceLine_268 (fun hc => ?_) (fun hc => ?_)
  · replace hf := hf.1 hc
    exact r_sub [] rfl (b_X12_pieceLine_281 hf)
  · replace hf := hf.2 hc
    refine r_aload_n (j := 0) rfl rfl dX12_pieceLine_271 ?_
    obtain ⟨fs_x4, x4, ha_x4, hv_x4, hf⟩ := hf
    refine r_get (Cn := RX12) (Tt := TX12) (N := 42) (n := 16) rfl uw_X12 (Nat.le_of_ble_eq_true rfl) wd_6_202 ha_x4 hv_x4 dX12_pieceLine_272 ?_
    refine r_iconst (v := 4) (by decide) dX12_pieceLine_275 ?_
    refine r_dup2 rfl rfl dX12_pieceLine_276 ?_
    obtain ⟨N_x5, f_x5, ha_x5, hi_x5, hf⟩ := hf
    refine r_iald ha_x5 hi_x5 dX12_pieceLine_277 ?_
    generalize f_x5 (4 : Int32).toNatClampNeg = x5 at hf ⊢
    refine r_iconst (v := 1) (by decide) dX12_pieceLine_278 ?_
    refine r_iadd (x := x5) (y := 1) dX12_pieceLine_279 ?_
    obtain ⟨N_x7, f_x7, ha_x7, hi_x7, hf⟩ := hf
    generalize hσ6 : hset σ1 x4 (iA N_x7 (up_ f_x7 (4 : Int32).toNatClampNeg (x5 + 1))) = σ6 at hf
    refine r_iast (f := f_x7) (x := (x5 + 1)) ha_x7 hi_x7 dX12_pieceLine_280 ?_
    refine Eq.mpr (congrArg (fun z => Wd _ _ _ _ _ _ _ _ _ _ _ z _ _ _) hσ6) ?_
    exact r_sub [] rfl (b_X12_pieceLine_281 hf)
def F_X12_pieceLine_225 (l : Launch) (G : GG) (d : Nat) (v0 : Nat) (v1 : Int32) (s0 : Nat) (s1 : Int32) (s2 : Bool) (σ : Hp) (K : Hp → Prop) : Prop :=
  sI σ s0 s1 (bi s2) fun σ8 =>
  fN σ8 v0 12 16 fun x10 =>
  C_X12_takesWord l G d v0 (gK G 35) σ8 fun r12 σ11 =>
  (r12 = false →
    C_X12_takesWord l G d v0 (gK G 36) σ11 fun r14 σ13 =>
    (r14 = false →
      F_X12_pieceLine_263 l G d v0 x10 (33 + v1) 0 σ13 K) ∧
    (r14 = true →
      F_X12_pieceLine_263 l G d v0 x10 (33 + v1) 2 σ13 K)) ∧
  (r12 = true →
    F_X12_pieceLine_263 l G d v0 x10 (33 + v1) 1 σ11 K)
set_option maxRecDepth 100000 in
set_option maxHeartbeats 4000000 in
theorem b_X12_pieceLine_225 {l : Launch} {G : GG} {d : Nat} {v0 : Nat} {v1 : Int32} {s0 : Nat} {s1 : Int32} {s2 : Bool} {σ : Hp} {K : Hp → Prop} (hf : F_X12_pieceLine_225 l G d v0 v1 s0 s1 s2 σ K) : Wd l G (d + 1) "CoinsLaidModel" yX12_pieceLine cX12_pieceLine 3 none 225 [(0, aR (some v0)), (1, aI v1)] [aI (bi s2), aI s1, aR (some s0)] σ 0 0 (xM (QV K)) := by
  unfold F_X12_pieceLine_225 at hf
  obtain ⟨N_x9, f_x9, ha_x9, hi_x9, hf⟩ := hf
  generalize hσ8 : hset σ s0 (iA N_x9 (up_ f_x9 (s1 : Int32).toNatClampNeg (bi s2))) = σ8 at hf
  refine r_iast (f := f_x9) (x := (bi s2)) ha_x9 hi_x9 dX12_pieceLine_225 ?_
  refine Eq.mpr (congrArg (fun z => Wd _ _ _ _ _ _ _ _ _ _ _ z _ _ _) hσ8) ?_
  refine r_aload_n (j := 0) rfl rfl dX12_pieceLine_226 ?_
  obtain ⟨fs_x10, x10, ha_x10, hv_x10, hf⟩ := hf
  refine r_get (Cn := RX12) (Tt := TX12) (N := 42) (n := 16) rfl uw_X12 (Nat.le_of_ble_eq_true rfl) wd_6_202 ha_x10 hv_x10 dX12_pieceLine_227 ?_
  refine r_bipush (v := 33) (by decide) dX12_pieceLine_230 ?_
  refine r_iload_n (j := 1) rfl rfl dX12_pieceLine_232 ?_
  refine r_iadd (x := 33) (y := v1) dX12_pieceLine_233 ?_
  refine r_aload_n (j := 0) rfl rfl dX12_pieceLine_234 ?_
  refine r_ldcwS (j := 35) rfl dX12_pieceLine_235 ?_
  try unfold C_X12_takesWord at hf
  obtain ⟨⟨fs_r12, ha_r12⟩, hf⟩ := hf
  refine r_invVZ (t := 12) (As := [aR (some (gK G 35))]) (dz := d) (mz := 0) (sz := 0) rfl wd_7_134 wd_7_136 wd_p_58 cf_X12_takesWord (Nat.le_refl _) (Nat.zero_le _) (Nat.zero_le _) (cat_ok (Nat.le_of_ble_eq_true rfl)) rfl rfl ha_r12 dX12_pieceLine_238 hf (fun r12 σ11 hk => ?_)
  replace hf := hk
  clear hk
  refine r_ifeqZ (b := r12) (tgt := 248) (by decide) dX12_pieceLine_241 (fun hc => ?_) (fun hc => ?_)
  · replace hf := hf.1 hc
    refine r_aload_n (j := 0) rfl rfl dX12_pieceLine_248 ?_
    refine r_ldcwS (j := 36) rfl dX12_pieceLine_249 ?_
    try unfold C_X12_takesWord at hf
    obtain ⟨⟨fs_r14, ha_r14⟩, hf⟩ := hf
    refine r_invVZ (t := 12) (As := [aR (some (gK G 36))]) (dz := d) (mz := 0) (sz := 0) rfl wd_7_134 wd_7_136 wd_p_58 cf_X12_takesWord (Nat.le_refl _) (Nat.zero_le _) (Nat.zero_le _) (cat_ok (Nat.le_of_ble_eq_true rfl)) rfl rfl ha_r14 dX12_pieceLine_252 hf (fun r14 σ13 hk => ?_)
    replace hf := hk
    clear hk
    refine r_ifeqZ (b := r14) (tgt := 262) (by decide) dX12_pieceLine_255 (fun hc => ?_) (fun hc => ?_)
    · replace hf := hf.1 hc
      refine r_iconst (v := 0) (by decide) dX12_pieceLine_262 ?_
      exact r_sub [0] rfl (b_X12_pieceLine_263 hf)
    · replace hf := hf.2 hc
      refine r_iconst (v := 2) (by decide) dX12_pieceLine_258 ?_
      refine r_goto (tgt := 263) (by decide) dX12_pieceLine_259 ?_
      exact r_sub [0] rfl (b_X12_pieceLine_263 hf)
  · replace hf := hf.2 hc
    refine r_iconst (v := 1) (by decide) dX12_pieceLine_244 ?_
    refine r_goto (tgt := 263) (by decide) dX12_pieceLine_245 ?_
    exact r_sub [0] rfl (b_X12_pieceLine_263 hf)
def F_X12_pieceLine_202 (l : Launch) (G : GG) (d : Nat) (v0 : Nat) (v1 : Int32) (σ : Hp) (K : Hp → Prop) : Prop :=
  fN σ v0 12 16 fun x15 =>
  C_X12_takesWord l G d v0 (gK G 34) σ fun r17 σ16 =>
  (r17 = false →
    F_X12_pieceLine_225 l G d v0 v1 x15 (29 + v1) false σ16 K) ∧
  (r17 = true →
    F_X12_pieceLine_225 l G d v0 v1 x15 (29 + v1) true σ16 K)
set_option maxRecDepth 100000 in
set_option maxHeartbeats 4000000 in
theorem b_X12_pieceLine_202 {l : Launch} {G : GG} {d : Nat} {v0 : Nat} {v1 : Int32} {σ : Hp} {K : Hp → Prop} (hf : F_X12_pieceLine_202 l G d v0 v1 σ K) : Wd l G (d + 1) "CoinsLaidModel" yX12_pieceLine cX12_pieceLine 3 none 202 [(0, aR (some v0)), (1, aI v1)] [] σ 0 0 (xM (QV K)) := by
  unfold F_X12_pieceLine_202 at hf
  refine r_aload_n (j := 0) rfl rfl dX12_pieceLine_202 ?_
  obtain ⟨fs_x15, x15, ha_x15, hv_x15, hf⟩ := hf
  refine r_get (Cn := RX12) (Tt := TX12) (N := 42) (n := 16) rfl uw_X12 (Nat.le_of_ble_eq_true rfl) wd_6_202 ha_x15 hv_x15 dX12_pieceLine_203 ?_
  refine r_bipush (v := 29) (by decide) dX12_pieceLine_206 ?_
  refine r_iload_n (j := 1) rfl rfl dX12_pieceLine_208 ?_
  refine r_iadd (x := 29) (y := v1) dX12_pieceLine_209 ?_
  refine r_aload_n (j := 0) rfl rfl dX12_pieceLine_210 ?_
  refine r_ldcwS (j := 34) rfl dX12_pieceLine_211 ?_
  try unfold C_X12_takesWord at hf
  obtain ⟨⟨fs_r17, ha_r17⟩, hf⟩ := hf
  refine r_invVZ (t := 12) (As := [aR (some (gK G 34))]) (dz := d) (mz := 0) (sz := 0) rfl wd_7_134 wd_7_136 wd_p_58 cf_X12_takesWord (Nat.le_refl _) (Nat.zero_le _) (Nat.zero_le _) (cat_ok (Nat.le_of_ble_eq_true rfl)) rfl rfl ha_r17 dX12_pieceLine_214 hf (fun r17 σ16 hk => ?_)
  replace hf := hk
  clear hk
  refine r_ifeqZ (b := r17) (tgt := 224) (by decide) dX12_pieceLine_217 (fun hc => ?_) (fun hc => ?_)
  · replace hf := hf.1 hc
    refine r_iconst (v := 0) (by decide) dX12_pieceLine_224 ?_
    exact r_sub [0, 1] rfl (b_X12_pieceLine_225 hf)
  · replace hf := hf.2 hc
    refine r_iconst (v := 1) (by decide) dX12_pieceLine_220 ?_
    refine r_goto (tgt := 225) (by decide) dX12_pieceLine_221 ?_
    exact r_sub [0, 1] rfl (b_X12_pieceLine_225 hf)
def F_X12_pieceLine_198 (l : Launch) (G : GG) (d : Nat) (v0 : Nat) (v1 : Int32) (s0 : Nat) (s1 : Int32) (s2 : Nat) (s3 : Int32) (s4 : Int32) (σ : Hp) (K : Hp → Prop) : Prop :=
  C_X12_number l G d s2 s3 s4 σ fun r19 σ18 =>
  sI σ18 s0 s1 r19 fun σ20 =>
  F_X12_pieceLine_202 l G d v0 v1 σ20 K
set_option maxRecDepth 100000 in
set_option maxHeartbeats 4000000 in
theorem b_X12_pieceLine_198 {l : Launch} {G : GG} {d : Nat} {v0 : Nat} {v1 : Int32} {s0 : Nat} {s1 : Int32} {s2 : Nat} {s3 : Int32} {s4 : Int32} {σ : Hp} {K : Hp → Prop} (hf : F_X12_pieceLine_198 l G d v0 v1 s0 s1 s2 s3 s4 σ K) : Wd l G (d + 1) "CoinsLaidModel" yX12_pieceLine cX12_pieceLine 3 none 198 [(0, aR (some v0)), (1, aI v1)] [aI s4, aI s3, aR (some s2), aI s1, aR (some s0)] σ 0 0 (xM (QV K)) := by
  unfold F_X12_pieceLine_198 at hf
  try unfold C_X12_number at hf
  obtain ⟨⟨fs_r19, ha_r19⟩, hf⟩ := hf
  refine r_invVI (t := 12) (As := [aI s3, aI s4]) (dz := d) (mz := 0) (sz := 0) rfl wd_7_165 wd_7_167 wd_p_64 cf_X12_number (Nat.le_refl _) (Nat.zero_le _) (Nat.zero_le _) (cat_ok (Nat.le_of_ble_eq_true rfl)) rfl rfl ha_r19 dX12_pieceLine_198 hf (fun r19 σ18 hk => ?_)
  replace hf := hk
  clear hk
  obtain ⟨N_x21, f_x21, ha_x21, hi_x21, hf⟩ := hf
  generalize hσ20 : hset σ18 s0 (iA N_x21 (up_ f_x21 (s1 : Int32).toNatClampNeg r19)) = σ20 at hf
  refine r_iast (f := f_x21) (x := r19) ha_x21 hi_x21 dX12_pieceLine_201 ?_
  refine Eq.mpr (congrArg (fun z => Wd _ _ _ _ _ _ _ _ _ _ _ z _ _ _) hσ20) ?_
  exact r_sub [0, 1] rfl (b_X12_pieceLine_202 hf)
def F_X12_pieceLine_188 (l : Launch) (G : GG) (d : Nat) (v0 : Nat) (v1 : Int32) (v2 : Int32) (s0 : Nat) (s1 : Int32) (s2 : Nat) (s3 : Int32) (σ : Hp) (K : Hp → Prop) : Prop :=
  (¬ (v2 : Int32) = (1 : Int32) →
    F_X12_pieceLine_198 l G d v0 v1 s0 s1 s2 s3 3 σ K) ∧
  ((v2 : Int32) = (1 : Int32) →
    F_X12_pieceLine_198 l G d v0 v1 s0 s1 s2 s3 4 σ K)
set_option maxRecDepth 100000 in
set_option maxHeartbeats 4000000 in
theorem b_X12_pieceLine_188 {l : Launch} {G : GG} {d : Nat} {v0 : Nat} {v1 : Int32} {v2 : Int32} {s0 : Nat} {s1 : Int32} {s2 : Nat} {s3 : Int32} {σ : Hp} {K : Hp → Prop} (hf : F_X12_pieceLine_188 l G d v0 v1 v2 s0 s1 s2 s3 σ K) : Wd l G (d + 1) "CoinsLaidModel" yX12_pieceLine cX12_pieceLine 3 none 188 [(0, aR (some v0)), (1, aI v1), (2, aI v2)] [aI s3, aR (some s2), aI s1, aR (some s0)] σ 0 0 (xM (QV K)) := by
  unfold F_X12_pieceLine_188 at hf
  refine r_iload_n (j := 2) rfl rfl dX12_pieceLine_188 ?_
  refine r_iconst (v := 1) (by decide) dX12_pieceLine_189 ?_
  refine r_icmpne (x := v2) (y := 1) (tgt := 197) (by decide) dX12_pieceLine_190 (fun hc => ?_) (fun hc => ?_)
  · replace hf := hf.1 hc
    refine r_iconst (v := 3) (by decide) dX12_pieceLine_197 ?_
    exact r_sub [0, 1] rfl (b_X12_pieceLine_198 hf)
  · replace hf := hf.2 hc
    refine r_iconst (v := 4) (by decide) dX12_pieceLine_193 ?_
    refine r_goto (tgt := 198) (by decide) dX12_pieceLine_194 ?_
    exact r_sub [0, 1] rfl (b_X12_pieceLine_198 hf)
def F_X12_pieceLine_161 (l : Launch) (G : GG) (d : Nat) (v0 : Nat) (v1 : Int32) (v2 : Int32) (s0 : Nat) (s1 : Int32) (s2 : Nat) (s3 : Int32) (s4 : Int32) (σ : Hp) (K : Hp → Prop) : Prop :=
  C_X12_number l G d s2 s3 s4 σ fun r23 σ22 =>
  sI σ22 s0 s1 r23 fun σ24 =>
  C_X12_mustComma l G d v0 σ24 fun σ26 =>
  fN σ26 v0 12 16 fun x28 =>
  (¬ (v2 : Int32) = (1 : Int32) →
    F_X12_pieceLine_188 l G d v0 v1 v2 x28 (25 + v1) v0 2 σ26 K) ∧
  ((v2 : Int32) = (1 : Int32) →
    F_X12_pieceLine_188 l G d v0 v1 v2 x28 (25 + v1) v0 1 σ26 K)
set_option maxRecDepth 100000 in
set_option maxHeartbeats 4000000 in
theorem b_X12_pieceLine_161 {l : Launch} {G : GG} {d : Nat} {v0 : Nat} {v1 : Int32} {v2 : Int32} {s0 : Nat} {s1 : Int32} {s2 : Nat} {s3 : Int32} {s4 : Int32} {σ : Hp} {K : Hp → Prop} (hf : F_X12_pieceLine_161 l G d v0 v1 v2 s0 s1 s2 s3 s4 σ K) : Wd l G (d + 1) "CoinsLaidModel" yX12_pieceLine cX12_pieceLine 3 none 161 [(0, aR (some v0)), (1, aI v1), (2, aI v2)] [aI s4, aI s3, aR (some s2), aI s1, aR (some s0)] σ 0 0 (xM (QV K)) := by
  unfold F_X12_pieceLine_161 at hf
  try unfold C_X12_number at hf
  obtain ⟨⟨fs_r23, ha_r23⟩, hf⟩ := hf
  refine r_invVI (t := 12) (As := [aI s3, aI s4]) (dz := d) (mz := 0) (sz := 0) rfl wd_7_165 wd_7_167 wd_p_64 cf_X12_number (Nat.le_refl _) (Nat.zero_le _) (Nat.zero_le _) (cat_ok (Nat.le_of_ble_eq_true rfl)) rfl rfl ha_r23 dX12_pieceLine_161 hf (fun r23 σ22 hk => ?_)
  replace hf := hk
  clear hk
  obtain ⟨N_x25, f_x25, ha_x25, hi_x25, hf⟩ := hf
  generalize hσ24 : hset σ22 s0 (iA N_x25 (up_ f_x25 (s1 : Int32).toNatClampNeg r23)) = σ24 at hf
  refine r_iast (f := f_x25) (x := r23) ha_x25 hi_x25 dX12_pieceLine_164 ?_
  refine Eq.mpr (congrArg (fun z => Wd _ _ _ _ _ _ _ _ _ _ _ z _ _ _) hσ24) ?_
  refine r_aload_n (j := 0) rfl rfl dX12_pieceLine_165 ?_
  try unfold C_X12_mustComma at hf
  obtain ⟨⟨fs_r27, ha_r27⟩, hf⟩ := hf
  refine r_invVU (t := 12) (As := []) (dz := d) (mz := 0) (sz := 0) rfl wd_7_178 wd_7_180 wd_p_67 cf_X12_mustComma (Nat.le_refl _) (Nat.zero_le _) (Nat.zero_le _) (cat_ok (Nat.le_of_ble_eq_true rfl)) rfl rfl ha_r27 dX12_pieceLine_166 hf (fun σ26 hk => ?_)
  replace hf := hk
  clear hk
  refine r_aload_n (j := 0) rfl rfl dX12_pieceLine_169 ?_
  obtain ⟨fs_x28, x28, ha_x28, hv_x28, hf⟩ := hf
  refine r_get (Cn := RX12) (Tt := TX12) (N := 42) (n := 16) rfl uw_X12 (Nat.le_of_ble_eq_true rfl) wd_6_202 ha_x28 hv_x28 dX12_pieceLine_170 ?_
  refine r_bipush (v := 25) (by decide) dX12_pieceLine_173 ?_
  refine r_iload_n (j := 1) rfl rfl dX12_pieceLine_175 ?_
  refine r_iadd (x := 25) (y := v1) dX12_pieceLine_176 ?_
  refine r_aload_n (j := 0) rfl rfl dX12_pieceLine_177 ?_
  refine r_iload_n (j := 2) rfl rfl dX12_pieceLine_178 ?_
  refine r_iconst (v := 1) (by decide) dX12_pieceLine_179 ?_
  refine r_icmpne (x := v2) (y := 1) (tgt := 187) (by decide) dX12_pieceLine_180 (fun hc => ?_) (fun hc => ?_)
  · replace hf := hf.1 hc
    refine r_iconst (v := 2) (by decide) dX12_pieceLine_187 ?_
    exact r_sub [0, 1, 2] rfl (b_X12_pieceLine_188 hf)
  · replace hf := hf.2 hc
    refine r_iconst (v := 1) (by decide) dX12_pieceLine_183 ?_
    refine r_goto (tgt := 188) (by decide) dX12_pieceLine_184 ?_
    exact r_sub [0, 1, 2] rfl (b_X12_pieceLine_188 hf)
def F_X12_pieceLine_151 (l : Launch) (G : GG) (d : Nat) (v0 : Nat) (v1 : Int32) (v2 : Int32) (s0 : Nat) (s1 : Int32) (s2 : Nat) (s3 : Int32) (σ : Hp) (K : Hp → Prop) : Prop :=
  (¬ (v2 : Int32) = (1 : Int32) →
    F_X12_pieceLine_161 l G d v0 v1 v2 s0 s1 s2 s3 3 σ K) ∧
  ((v2 : Int32) = (1 : Int32) →
    F_X12_pieceLine_161 l G d v0 v1 v2 s0 s1 s2 s3 4 σ K)
set_option maxRecDepth 100000 in
set_option maxHeartbeats 4000000 in
theorem b_X12_pieceLine_151 {l : Launch} {G : GG} {d : Nat} {v0 : Nat} {v1 : Int32} {v2 : Int32} {s0 : Nat} {s1 : Int32} {s2 : Nat} {s3 : Int32} {σ : Hp} {K : Hp → Prop} (hf : F_X12_pieceLine_151 l G d v0 v1 v2 s0 s1 s2 s3 σ K) : Wd l G (d + 1) "CoinsLaidModel" yX12_pieceLine cX12_pieceLine 3 none 151 [(0, aR (some v0)), (1, aI v1), (2, aI v2)] [aI s3, aR (some s2), aI s1, aR (some s0)] σ 0 0 (xM (QV K)) := by
  unfold F_X12_pieceLine_151 at hf
  refine r_iload_n (j := 2) rfl rfl dX12_pieceLine_151 ?_
  refine r_iconst (v := 1) (by decide) dX12_pieceLine_152 ?_
  refine r_icmpne (x := v2) (y := 1) (tgt := 160) (by decide) dX12_pieceLine_153 (fun hc => ?_) (fun hc => ?_)
  · replace hf := hf.1 hc
    refine r_iconst (v := 3) (by decide) dX12_pieceLine_160 ?_
    exact r_sub [0, 1, 2] rfl (b_X12_pieceLine_161 hf)
  · replace hf := hf.2 hc
    refine r_iconst (v := 4) (by decide) dX12_pieceLine_156 ?_
    refine r_goto (tgt := 161) (by decide) dX12_pieceLine_157 ?_
    exact r_sub [0, 1, 2] rfl (b_X12_pieceLine_161 hf)
def F_X12_pieceLine_86 (l : Launch) (G : GG) (d : Nat) (v0 : Nat) (v1 : Int32) (v2 : Int32) (σ : Hp) (K : Hp → Prop) : Prop :=
  fZ σ v0 12 13 fun x29 =>
  (x29 = false →
    C_X12_next l G d v0 σ fun σ30 =>
    fN σ30 v0 12 16 fun x32 =>
    sI σ30 x32 (17 + v1) v2 fun σ33 =>
    fN σ33 v0 12 16 fun x35 =>
    sI σ33 x35 (21 + v1) 1 fun σ36 =>
    fN σ36 v0 12 16 fun x38 =>
    sI σ36 x38 (25 + v1) 1 fun σ39 =>
    ((v2 : Int32) = 0 →
      F_X12_pieceLine_202 l G d v0 v1 σ39 K) ∧
    (¬ (v2 : Int32) = 0 →
      fN σ39 v0 12 16 fun x41 =>
      (¬ (v2 : Int32) = (1 : Int32) →
        F_X12_pieceLine_151 l G d v0 v1 v2 x41 (21 + v1) v0 2 σ39 K) ∧
      ((v2 : Int32) = (1 : Int32) →
        F_X12_pieceLine_151 l G d v0 v1 v2 x41 (21 + v1) v0 1 σ39 K))) ∧
  (x29 = true →
    K σ)
set_option maxRecDepth 100000 in
set_option maxHeartbeats 4000000 in
theorem b_X12_pieceLine_86 {l : Launch} {G : GG} {d : Nat} {v0 : Nat} {v1 : Int32} {v2 : Int32} {σ : Hp} {K : Hp → Prop} (hf : F_X12_pieceLine_86 l G d v0 v1 v2 σ K) : Wd l G (d + 1) "CoinsLaidModel" yX12_pieceLine cX12_pieceLine 3 none 86 [(0, aR (some v0)), (1, aI v1), (2, aI v2)] [] σ 0 0 (xM (QV K)) := by
  unfold F_X12_pieceLine_86 at hf
  refine r_aload_n (j := 0) rfl rfl dX12_pieceLine_86 ?_
  obtain ⟨fs_x29, x29, ha_x29, hv_x29, hf⟩ := hf
  refine r_get (Cn := RX12) (Tt := TX12) (N := 42) (n := 13) rfl uw_X12 (Nat.le_of_ble_eq_true rfl) wd_6_199 ha_x29 hv_x29 dX12_pieceLine_87 ?_
  refine r_ifeqZ (b := x29) (tgt := 94) (by decide) dX12_pieceLine_90 (fun hc => ?_) (fun hc => ?_)
  · replace hf := hf.1 hc
    refine r_aload_n (j := 0) rfl rfl dX12_pieceLine_94 ?_
    try unfold C_X12_next at hf
    obtain ⟨⟨fs_r31, ha_r31⟩, hf⟩ := hf
    refine r_invVU (t := 12) (As := []) (dz := d) (mz := 0) (sz := 0) rfl wd_7_96 wd_7_98 wd_p_51 cf_X12_next (Nat.le_refl _) (Nat.zero_le _) (Nat.zero_le _) (cat_ok (Nat.le_of_ble_eq_true rfl)) rfl rfl ha_r31 dX12_pieceLine_95 hf (fun σ30 hk => ?_)
    replace hf := hk
    clear hk
    refine r_aload_n (j := 0) rfl rfl dX12_pieceLine_98 ?_
    obtain ⟨fs_x32, x32, ha_x32, hv_x32, hf⟩ := hf
    refine r_get (Cn := RX12) (Tt := TX12) (N := 42) (n := 16) rfl uw_X12 (Nat.le_of_ble_eq_true rfl) wd_6_202 ha_x32 hv_x32 dX12_pieceLine_99 ?_
    refine r_bipush (v := 17) (by decide) dX12_pieceLine_102 ?_
    refine r_iload_n (j := 1) rfl rfl dX12_pieceLine_104 ?_
    refine r_iadd (x := 17) (y := v1) dX12_pieceLine_105 ?_
    refine r_iload_n (j := 2) rfl rfl dX12_pieceLine_106 ?_
    obtain ⟨N_x34, f_x34, ha_x34, hi_x34, hf⟩ := hf
    generalize hσ33 : hset σ30 x32 (iA N_x34 (up_ f_x34 ((17 + v1) : Int32).toNatClampNeg v2)) = σ33 at hf
    refine r_iast (f := f_x34) (x := v2) ha_x34 hi_x34 dX12_pieceLine_107 ?_
    refine Eq.mpr (congrArg (fun z => Wd _ _ _ _ _ _ _ _ _ _ _ z _ _ _) hσ33) ?_
    refine r_aload_n (j := 0) rfl rfl dX12_pieceLine_108 ?_
    obtain ⟨fs_x35, x35, ha_x35, hv_x35, hf⟩ := hf
    refine r_get (Cn := RX12) (Tt := TX12) (N := 42) (n := 16) rfl uw_X12 (Nat.le_of_ble_eq_true rfl) wd_6_202 ha_x35 hv_x35 dX12_pieceLine_109 ?_
    refine r_bipush (v := 21) (by decide) dX12_pieceLine_112 ?_
    refine r_iload_n (j := 1) rfl rfl dX12_pieceLine_114 ?_
    refine r_iadd (x := 21) (y := v1) dX12_pieceLine_115 ?_
    refine r_iconst (v := 1) (by decide) dX12_pieceLine_116 ?_
    obtain ⟨N_x37, f_x37, ha_x37, hi_x37, hf⟩ := hf
    generalize hσ36 : hset σ33 x35 (iA N_x37 (up_ f_x37 ((21 + v1) : Int32).toNatClampNeg 1)) = σ36 at hf
    refine r_iast (f := f_x37) (x := 1) ha_x37 hi_x37 dX12_pieceLine_117 ?_
    refine Eq.mpr (congrArg (fun z => Wd _ _ _ _ _ _ _ _ _ _ _ z _ _ _) hσ36) ?_
    refine r_aload_n (j := 0) rfl rfl dX12_pieceLine_118 ?_
    obtain ⟨fs_x38, x38, ha_x38, hv_x38, hf⟩ := hf
    refine r_get (Cn := RX12) (Tt := TX12) (N := 42) (n := 16) rfl uw_X12 (Nat.le_of_ble_eq_true rfl) wd_6_202 ha_x38 hv_x38 dX12_pieceLine_119 ?_
    refine r_bipush (v := 25) (by decide) dX12_pieceLine_122 ?_
    refine r_iload_n (j := 1) rfl rfl dX12_pieceLine_124 ?_
    refine r_iadd (x := 25) (y := v1) dX12_pieceLine_125 ?_
    refine r_iconst (v := 1) (by decide) dX12_pieceLine_126 ?_
    obtain ⟨N_x40, f_x40, ha_x40, hi_x40, hf⟩ := hf
    generalize hσ39 : hset σ36 x38 (iA N_x40 (up_ f_x40 ((25 + v1) : Int32).toNatClampNeg 1)) = σ39 at hf
    refine r_iast (f := f_x40) (x := 1) ha_x40 hi_x40 dX12_pieceLine_127 ?_
    refine Eq.mpr (congrArg (fun z => Wd _ _ _ _ _ _ _ _ _ _ _ z _ _ _) hσ39) ?_
    refine r_iload_n (j := 2) rfl rfl dX12_pieceLine_128 ?_
    refine r_ifeq (x := v2) (tgt := 202) (by decide) dX12_pieceLine_129 (fun hc => ?_) (fun hc => ?_)
    · replace hf := hf.1 hc
      exact r_sub [0, 1] rfl (b_X12_pieceLine_202 hf)
    · replace hf := hf.2 hc
      refine r_aload_n (j := 0) rfl rfl dX12_pieceLine_132 ?_
      obtain ⟨fs_x41, x41, ha_x41, hv_x41, hf⟩ := hf
      refine r_get (Cn := RX12) (Tt := TX12) (N := 42) (n := 16) rfl uw_X12 (Nat.le_of_ble_eq_true rfl) wd_6_202 ha_x41 hv_x41 dX12_pieceLine_133 ?_
      refine r_bipush (v := 21) (by decide) dX12_pieceLine_136 ?_
      refine r_iload_n (j := 1) rfl rfl dX12_pieceLine_138 ?_
      refine r_iadd (x := 21) (y := v1) dX12_pieceLine_139 ?_
      refine r_aload_n (j := 0) rfl rfl dX12_pieceLine_140 ?_
      refine r_iload_n (j := 2) rfl rfl dX12_pieceLine_141 ?_
      refine r_iconst (v := 1) (by decide) dX12_pieceLine_142 ?_
      refine r_icmpne (x := v2) (y := 1) (tgt := 150) (by decide) dX12_pieceLine_143 (fun hc => ?_) (fun hc => ?_)
      · replace hf := hf.1 hc
        refine r_iconst (v := 2) (by decide) dX12_pieceLine_150 ?_
        exact r_sub [0, 1, 2] rfl (b_X12_pieceLine_151 hf)
      · replace hf := hf.2 hc
        refine r_iconst (v := 1) (by decide) dX12_pieceLine_146 ?_
        refine r_goto (tgt := 151) (by decide) dX12_pieceLine_147 ?_
        exact r_sub [0, 1, 2] rfl (b_X12_pieceLine_151 hf)
  · replace hf := hf.2 hc
    exact r_return rfl dX12_pieceLine_93 rfl ⟨rfl, hf⟩
def F_X12_pieceLine_72 (l : Launch) (G : GG) (d : Nat) (v0 : Nat) (v1 : Int32) (s0 : Int32) (σ : Hp) (K : Hp → Prop) : Prop :=
  (0 ≤ (s0 : Int32) →
    F_X12_pieceLine_86 l G d v0 v1 s0 σ K) ∧
  (¬ 0 ≤ (s0 : Int32) →
    fI σ v0 12 4 fun x42 =>
    C_X12_wrong l G d v0 1 x42 σ fun σ43 =>
    F_X12_pieceLine_86 l G d v0 v1 s0 σ43 K)
set_option maxRecDepth 100000 in
set_option maxHeartbeats 4000000 in
theorem b_X12_pieceLine_72 {l : Launch} {G : GG} {d : Nat} {v0 : Nat} {v1 : Int32} {s0 : Int32} {σ : Hp} {K : Hp → Prop} (hf : F_X12_pieceLine_72 l G d v0 v1 s0 σ K) : Wd l G (d + 1) "CoinsLaidModel" yX12_pieceLine cX12_pieceLine 3 none 72 [(0, aR (some v0)), (1, aI v1)] [aI s0] σ 0 0 (xM (QV K)) := by
  unfold F_X12_pieceLine_72 at hf
  refine r_istore_n (L' := [(2, aI s0), (0, aR (some v0)), (1, aI v1)]) rfl rfl (Nat.le_of_ble_eq_true rfl) dX12_pieceLine_72 ?_
  refine r_iload_n (j := 0) rfl rfl dX12_pieceLine_73 ?_
  refine r_ifge (x := s0) (tgt := 86) (by decide) dX12_pieceLine_74 (fun hc => ?_) (fun hc => ?_)
  · replace hf := hf.1 hc
    exact r_sub [1, 2, 0] rfl (b_X12_pieceLine_86 hf)
  · replace hf := hf.2 hc
    refine r_aload_n (j := 1) rfl rfl dX12_pieceLine_77 ?_
    refine r_iconst (v := 1) (by decide) dX12_pieceLine_78 ?_
    refine r_aload_n (j := 1) rfl rfl dX12_pieceLine_79 ?_
    obtain ⟨fs_x42, x42, ha_x42, hv_x42, hf⟩ := hf
    refine r_get (Cn := RX12) (Tt := TX12) (N := 42) (n := 4) rfl uw_X12 (Nat.le_of_ble_eq_true rfl) wd_6_190 ha_x42 hv_x42 dX12_pieceLine_80 ?_
    try unfold C_X12_wrong at hf
    obtain ⟨⟨fs_r44, ha_r44⟩, hf⟩ := hf
    refine r_invVU (t := 12) (As := [aI 1, aI x42]) (dz := d) (mz := 0) (sz := 0) rfl wd_7_125 wd_7_127 wd_p_56 cf_X12_wrong (Nat.le_refl _) (Nat.zero_le _) (Nat.zero_le _) (cat_ok (Nat.le_of_ble_eq_true rfl)) rfl rfl ha_r44 dX12_pieceLine_83 hf (fun σ43 hk => ?_)
    replace hf := hk
    clear hk
    exact r_sub [1, 2, 0] rfl (b_X12_pieceLine_86 hf)
def F_X12_pieceLine (l : Launch) (G : GG) (d : Nat) (v0 : Nat) (σ : Hp) (K : Hp → Prop) : Prop :=
  fZ σ v0 12 13 fun x45 =>
  (x45 = false →
    fN σ v0 12 16 fun x46 =>
    gI σ x46 4 fun x47 =>
    C_X12_newName l G d v0 (3 + x47) σ fun σ48 =>
    fZ σ48 v0 12 13 fun x50 =>
    (x50 = false →
      C_X12_isWord l G d v0 (gK G 31) σ48 fun r52 σ51 =>
      (r52 = false →
        C_X12_isWord l G d v0 (gK G 32) σ51 fun r54 σ53 =>
        (r54 = false →
          C_X12_isWord l G d v0 (gK G 33) σ53 fun r56 σ55 =>
          (r56 = false →
            F_X12_pieceLine_72 l G d v0 x47 (-1) σ55 K) ∧
          (r56 = true →
            F_X12_pieceLine_72 l G d v0 x47 2 σ55 K)) ∧
        (r54 = true →
          F_X12_pieceLine_72 l G d v0 x47 1 σ53 K)) ∧
      (r52 = true →
        F_X12_pieceLine_72 l G d v0 x47 0 σ51 K)) ∧
    (x50 = true →
      K σ48)) ∧
  (x45 = true →
    K σ)
set_option maxRecDepth 100000 in
set_option maxHeartbeats 4000000 in
theorem b_X12_pieceLine_0 {l : Launch} {G : GG} {d : Nat} {v0 : Nat} {σ : Hp} {K : Hp → Prop} (hf : F_X12_pieceLine l G d v0 σ K) : Wd l G (d + 1) "CoinsLaidModel" yX12_pieceLine cX12_pieceLine 3 none 0 [(0, aR (some v0))] [] σ 0 0 (xM (QV K)) := by
  unfold F_X12_pieceLine at hf
  refine r_aload_n (j := 0) rfl rfl dX12_pieceLine_0 ?_
  obtain ⟨fs_x45, x45, ha_x45, hv_x45, hf⟩ := hf
  refine r_get (Cn := RX12) (Tt := TX12) (N := 42) (n := 13) rfl uw_X12 (Nat.le_of_ble_eq_true rfl) wd_6_199 ha_x45 hv_x45 dX12_pieceLine_1 ?_
  refine r_ifeqZ (b := x45) (tgt := 8) (by decide) dX12_pieceLine_4 (fun hc => ?_) (fun hc => ?_)
  · replace hf := hf.1 hc
    refine r_aload_n (j := 0) rfl rfl dX12_pieceLine_8 ?_
    obtain ⟨fs_x46, x46, ha_x46, hv_x46, hf⟩ := hf
    refine r_get (Cn := RX12) (Tt := TX12) (N := 42) (n := 16) rfl uw_X12 (Nat.le_of_ble_eq_true rfl) wd_6_202 ha_x46 hv_x46 dX12_pieceLine_9 ?_
    refine r_iconst (v := 4) (by decide) dX12_pieceLine_12 ?_
    obtain ⟨N_x47, f_x47, ha_x47, hi_x47, hf⟩ := hf
    refine r_iald ha_x47 hi_x47 dX12_pieceLine_13 ?_
    generalize f_x47 (4 : Int32).toNatClampNeg = x47 at hf ⊢
    refine r_istore_n (L' := [(1, aI x47), (0, aR (some v0))]) rfl rfl (Nat.le_of_ble_eq_true rfl) dX12_pieceLine_14 ?_
    refine r_aload_n (j := 1) rfl rfl dX12_pieceLine_15 ?_
    refine r_iconst (v := 3) (by decide) dX12_pieceLine_16 ?_
    refine r_iload_n (j := 0) rfl rfl dX12_pieceLine_17 ?_
    refine r_iadd (x := 3) (y := x47) dX12_pieceLine_18 ?_
    try unfold C_X12_newName at hf
    obtain ⟨⟨fs_r49, ha_r49⟩, hf⟩ := hf
    refine r_invVU (t := 12) (As := [aI (3 + x47)]) (dz := d) (mz := 0) (sz := 0) rfl wd_7_149 wd_7_151 wd_p_61 cf_X12_newName (Nat.le_refl _) (Nat.zero_le _) (Nat.zero_le _) (cat_ok (Nat.le_of_ble_eq_true rfl)) rfl rfl ha_r49 dX12_pieceLine_19 hf (fun σ48 hk => ?_)
    replace hf := hk
    clear hk
    refine r_aload_n (j := 1) rfl rfl dX12_pieceLine_22 ?_
    obtain ⟨fs_x50, x50, ha_x50, hv_x50, hf⟩ := hf
    refine r_get (Cn := RX12) (Tt := TX12) (N := 42) (n := 13) rfl uw_X12 (Nat.le_of_ble_eq_true rfl) wd_6_199 ha_x50 hv_x50 dX12_pieceLine_23 ?_
    refine r_ifeqZ (b := x50) (tgt := 30) (by decide) dX12_pieceLine_26 (fun hc => ?_) (fun hc => ?_)
    · replace hf := hf.1 hc
      refine r_aload_n (j := 1) rfl rfl dX12_pieceLine_30 ?_
      refine r_ldcS (j := 31) rfl dX12_pieceLine_31 ?_
      try unfold C_X12_isWord at hf
      obtain ⟨⟨fs_r52, ha_r52⟩, hf⟩ := hf
      refine r_invVZ (t := 12) (As := [aR (some (gK G 31))]) (dz := d) (mz := 0) (sz := 0) rfl wd_7_119 wd_7_121 wd_p_55 cf_X12_isWord (Nat.le_refl _) (Nat.zero_le _) (Nat.zero_le _) (cat_ok (Nat.le_of_ble_eq_true rfl)) rfl rfl ha_r52 dX12_pieceLine_33 hf (fun r52 σ51 hk => ?_)
      replace hf := hk
      clear hk
      refine r_ifeqZ (b := r52) (tgt := 43) (by decide) dX12_pieceLine_36 (fun hc => ?_) (fun hc => ?_)
      · replace hf := hf.1 hc
        refine r_aload_n (j := 1) rfl rfl dX12_pieceLine_43 ?_
        refine r_ldcwS (j := 32) rfl dX12_pieceLine_44 ?_
        try unfold C_X12_isWord at hf
        obtain ⟨⟨fs_r54, ha_r54⟩, hf⟩ := hf
        refine r_invVZ (t := 12) (As := [aR (some (gK G 32))]) (dz := d) (mz := 0) (sz := 0) rfl wd_7_119 wd_7_121 wd_p_55 cf_X12_isWord (Nat.le_refl _) (Nat.zero_le _) (Nat.zero_le _) (cat_ok (Nat.le_of_ble_eq_true rfl)) rfl rfl ha_r54 dX12_pieceLine_47 hf (fun r54 σ53 hk => ?_)
        replace hf := hk
        clear hk
        refine r_ifeqZ (b := r54) (tgt := 57) (by decide) dX12_pieceLine_50 (fun hc => ?_) (fun hc => ?_)
        · replace hf := hf.1 hc
          refine r_aload_n (j := 1) rfl rfl dX12_pieceLine_57 ?_
          refine r_ldcwS (j := 33) rfl dX12_pieceLine_58 ?_
          try unfold C_X12_isWord at hf
          obtain ⟨⟨fs_r56, ha_r56⟩, hf⟩ := hf
          refine r_invVZ (t := 12) (As := [aR (some (gK G 33))]) (dz := d) (mz := 0) (sz := 0) rfl wd_7_119 wd_7_121 wd_p_55 cf_X12_isWord (Nat.le_refl _) (Nat.zero_le _) (Nat.zero_le _) (cat_ok (Nat.le_of_ble_eq_true rfl)) rfl rfl ha_r56 dX12_pieceLine_61 hf (fun r56 σ55 hk => ?_)
          replace hf := hk
          clear hk
          refine r_ifeqZ (b := r56) (tgt := 71) (by decide) dX12_pieceLine_64 (fun hc => ?_) (fun hc => ?_)
          · replace hf := hf.1 hc
            refine r_iconst (v := (-1)) (by decide) dX12_pieceLine_71 ?_
            exact r_sub [1, 0] rfl (b_X12_pieceLine_72 hf)
          · replace hf := hf.2 hc
            refine r_iconst (v := 2) (by decide) dX12_pieceLine_67 ?_
            refine r_goto (tgt := 72) (by decide) dX12_pieceLine_68 ?_
            exact r_sub [1, 0] rfl (b_X12_pieceLine_72 hf)
        · replace hf := hf.2 hc
          refine r_iconst (v := 1) (by decide) dX12_pieceLine_53 ?_
          refine r_goto (tgt := 72) (by decide) dX12_pieceLine_54 ?_
          exact r_sub [1, 0] rfl (b_X12_pieceLine_72 hf)
      · replace hf := hf.2 hc
        refine r_iconst (v := 0) (by decide) dX12_pieceLine_39 ?_
        refine r_goto (tgt := 72) (by decide) dX12_pieceLine_40 ?_
        exact r_sub [1, 0] rfl (b_X12_pieceLine_72 hf)
    · replace hf := hf.2 hc
      exact r_return rfl dX12_pieceLine_29 rfl ⟨rfl, hf⟩
  · replace hf := hf.2 hc
    exact r_return rfl dX12_pieceLine_7 rfl ⟨rfl, hf⟩
theorem m_X12_pieceLine {l : Launch} {G : GG} {d : Nat} {v0 : Nat} {σ : Hp} {K : Hp → Prop} (hr : rv σ v0 12) (hf : F_X12_pieceLine l G d v0 σ K) : C_X12_pieceLine l G (d + 1) v0 σ K := ⟨hr, Sp.of (by decide) (Nat.le_of_ble_eq_true rfl) (b_X12_pieceLine_0 hf) rfl⟩
def F_X12_layLine_105 (l : Launch) (G : GG) (d : Nat) (v0 : Nat) (σ : Hp) (K : Hp → Prop) : Prop :=
  fI σ v0 12 4 fun x1 =>
  C_X12_wrong l G d v0 7 x1 σ fun σ2 =>
  K σ2
set_option maxRecDepth 100000 in
set_option maxHeartbeats 4000000 in
theorem b_X12_layLine_105 {l : Launch} {G : GG} {d : Nat} {v0 : Nat} {σ : Hp} {K : Hp → Prop} (hf : F_X12_layLine_105 l G d v0 σ K) : Wd l G (d + 1) "CoinsLaidModel" yX12_layLine cX12_layLine 3 none 105 [(0, aR (some v0))] [] σ 0 0 (xM (QV K)) := by
  unfold F_X12_layLine_105 at hf
  refine r_aload_n (j := 0) rfl rfl dX12_layLine_105 ?_
  refine r_bipush (v := 7) (by decide) dX12_layLine_106 ?_
  refine r_aload_n (j := 0) rfl rfl dX12_layLine_108 ?_
  obtain ⟨fs_x1, x1, ha_x1, hv_x1, hf⟩ := hf
  refine r_get (Cn := RX12) (Tt := TX12) (N := 42) (n := 4) rfl uw_X12 (Nat.le_of_ble_eq_true rfl) wd_6_190 ha_x1 hv_x1 dX12_layLine_109 ?_
  try unfold C_X12_wrong at hf
  obtain ⟨⟨fs_r3, ha_r3⟩, hf⟩ := hf
  refine r_invVU (t := 12) (As := [aI 7, aI x1]) (dz := d) (mz := 0) (sz := 0) rfl wd_7_125 wd_7_127 wd_p_56 cf_X12_wrong (Nat.le_refl _) (Nat.zero_le _) (Nat.zero_le _) (cat_ok (Nat.le_of_ble_eq_true rfl)) rfl rfl ha_r3 dX12_layLine_112 hf (fun σ2 hk => ?_)
  replace hf := hk
  clear hk
  exact r_return rfl dX12_layLine_115 rfl ⟨rfl, hf⟩
def F_X12_layLine_38 (l : Launch) (G : GG) (d : Nat) (X38 : Nat → Int32 → Int32 → Hp → Prop) (v0 : Nat) (v1 : Int32) (v2 : Int32) (σ : Hp) (K : Hp → Prop) : Prop :=
  fN σ v0 12 18 fun x4 =>
  gI σ x4 0 fun x5 =>
  ((x5 : Int32) ≤ (v2 : Int32) →
    fI σ v0 12 7 fun x6 =>
    fI σ v0 12 30 fun x7 =>
    ((x7 : Int32) ≤ (x6 : Int32) →
      F_X12_layLine_105 l G d v0 σ K) ∧
    (¬ (x7 : Int32) ≤ (x6 : Int32) →
      fN σ v0 12 16 fun x8 =>
      fN σ v0 12 18 fun x9 =>
      gI σ x9 0 fun x10 =>
      ¬ (2 : Int32) = 0 ∧
      fI σ v0 12 7 fun x11 =>
      C_X12_mayIn l G d v0 x8 v1 (x10 - x10 / 2 * 2) x11 σ fun r13 σ12 =>
      (r13 = true →
        fN σ12 v0 12 18 fun x14 =>
        fN σ12 v0 12 18 fun x15 =>
        gI σ12 x15 0 fun x16 =>
        fI σ12 v0 12 7 fun x17 =>
        sI σ12 x14 (1 + x16) x17 fun σ18 =>
        fN σ18 v0 12 18 fun x20 =>
        gI σ18 x20 0 fun x21 =>
        sI σ18 x20 0 (x21 + 1) fun σ22 =>
        C_X12_next l G d v0 σ22 fun σ24 =>
        K σ24) ∧
      (r13 = false →
        F_X12_layLine_105 l G d v0 σ12 K))) ∧
  (¬ (x5 : Int32) ≤ (v2 : Int32) →
    fN σ v0 12 28 fun x26 =>
    fN σ v0 12 18 fun x27 =>
    gI σ x27 (1 + v2) fun x28 =>
    gI σ x26 x28 fun x29 =>
    X38 v0 (v1 ||| x29) (v2 + 1) σ)
set_option maxRecDepth 100000 in
set_option maxHeartbeats 4000000 in
theorem b_X12_layLine_38 {l : Launch} {G : GG} {d : Nat} {X38 : Nat → Int32 → Int32 → Hp → Prop} {v0 : Nat} {v1 : Int32} {v2 : Int32} {σ : Hp} {K : Hp → Prop} (hX38 : ∀ v0 v1 v2 σ, X38 v0 v1 v2 σ → Wd l G (d + 1) "CoinsLaidModel" yX12_layLine cX12_layLine 3 none 38 [(0, aR (some v0)), (1, aI v1), (2, aI v2)] [] σ 0 0 (xM (QV K))) (hf : F_X12_layLine_38 l G d X38 v0 v1 v2 σ K) : Wd l G (d + 1) "CoinsLaidModel" yX12_layLine cX12_layLine 3 none 38 [(0, aR (some v0)), (1, aI v1), (2, aI v2)] [] σ 0 0 (xM (QV K)) := by
  unfold F_X12_layLine_38 at hf
  refine r_iload_n (j := 2) rfl rfl dX12_layLine_38 ?_
  refine r_aload_n (j := 0) rfl rfl dX12_layLine_39 ?_
  obtain ⟨fs_x4, x4, ha_x4, hv_x4, hf⟩ := hf
  refine r_get (Cn := RX12) (Tt := TX12) (N := 42) (n := 18) rfl uw_X12 (Nat.le_of_ble_eq_true rfl) wd_6_204 ha_x4 hv_x4 dX12_layLine_40 ?_
  refine r_iconst (v := 0) (by decide) dX12_layLine_43 ?_
  obtain ⟨N_x5, f_x5, ha_x5, hi_x5, hf⟩ := hf
  refine r_iald ha_x5 hi_x5 dX12_layLine_44 ?_
  generalize f_x5 (0 : Int32).toNatClampNeg = x5 at hf ⊢
  refine r_icmpge (x := v2) (y := x5) (tgt := 70) (by decide) dX12_layLine_45 (fun hc => ?_) (fun hc => ?_)
  · replace hf := hf.1 hc
    refine r_aload_n (j := 0) rfl rfl dX12_layLine_70 ?_
    obtain ⟨fs_x6, x6, ha_x6, hv_x6, hf⟩ := hf
    refine r_get (Cn := RX12) (Tt := TX12) (N := 42) (n := 7) rfl uw_X12 (Nat.le_of_ble_eq_true rfl) wd_6_193 ha_x6 hv_x6 dX12_layLine_71 ?_
    refine r_aload_n (j := 0) rfl rfl dX12_layLine_74 ?_
    obtain ⟨fs_x7, x7, ha_x7, hv_x7, hf⟩ := hf
    refine r_get (Cn := RX12) (Tt := TX12) (N := 42) (n := 30) rfl uw_X12 (Nat.le_of_ble_eq_true rfl) wd_6_216 ha_x7 hv_x7 dX12_layLine_75 ?_
    refine r_icmpge (x := x6) (y := x7) (tgt := 105) (by decide) dX12_layLine_78 (fun hc => ?_) (fun hc => ?_)
    · replace hf := hf.1 hc
      exact r_sub [0] rfl (b_X12_layLine_105 hf)
    · replace hf := hf.2 hc
      refine r_aload_n (j := 0) rfl rfl dX12_layLine_81 ?_
      refine r_aload_n (j := 0) rfl rfl dX12_layLine_82 ?_
      obtain ⟨fs_x8, x8, ha_x8, hv_x8, hf⟩ := hf
      refine r_get (Cn := RX12) (Tt := TX12) (N := 42) (n := 16) rfl uw_X12 (Nat.le_of_ble_eq_true rfl) wd_6_202 ha_x8 hv_x8 dX12_layLine_83 ?_
      refine r_iload_n (j := 1) rfl rfl dX12_layLine_86 ?_
      refine r_aload_n (j := 0) rfl rfl dX12_layLine_87 ?_
      obtain ⟨fs_x9, x9, ha_x9, hv_x9, hf⟩ := hf
      refine r_get (Cn := RX12) (Tt := TX12) (N := 42) (n := 18) rfl uw_X12 (Nat.le_of_ble_eq_true rfl) wd_6_204 ha_x9 hv_x9 dX12_layLine_88 ?_
      refine r_iconst (v := 0) (by decide) dX12_layLine_91 ?_
      obtain ⟨N_x10, f_x10, ha_x10, hi_x10, hf⟩ := hf
      refine r_iald ha_x10 hi_x10 dX12_layLine_92 ?_
      generalize f_x10 (0 : Int32).toNatClampNeg = x10 at hf ⊢
      refine r_iconst (v := 2) (by decide) dX12_layLine_93 ?_
      obtain ⟨hne, hf⟩ := hf
      refine r_irem hne dX12_layLine_94 ?_
      refine r_aload_n (j := 0) rfl rfl dX12_layLine_95 ?_
      obtain ⟨fs_x11, x11, ha_x11, hv_x11, hf⟩ := hf
      refine r_get (Cn := RX12) (Tt := TX12) (N := 42) (n := 7) rfl uw_X12 (Nat.le_of_ble_eq_true rfl) wd_6_193 ha_x11 hv_x11 dX12_layLine_96 ?_
      try unfold C_X12_mayIn at hf
      obtain ⟨⟨fs_r13, ha_r13⟩, hf⟩ := hf
      refine r_invVZ (t := 12) (As := [aR (some x8), aI v1, aI (x10 - x10 / 2 * 2), aI x11]) (dz := d) (mz := 0) (sz := 0) rfl wd_7_222 wd_7_224 wd_p_72 cf_X12_mayIn (Nat.le_refl _) (Nat.zero_le _) (Nat.zero_le _) (cat_ok (Nat.le_of_ble_eq_true rfl)) rfl rfl ha_r13 dX12_layLine_99 hf (fun r13 σ12 hk => ?_)
      replace hf := hk
      clear hk
      refine r_ifneZ (b := r13) (tgt := 116) (by decide) dX12_layLine_102 (fun hc => ?_) (fun hc => ?_)
      · replace hf := hf.1 hc
        refine r_aload_n (j := 0) rfl rfl dX12_layLine_116 ?_
        obtain ⟨fs_x14, x14, ha_x14, hv_x14, hf⟩ := hf
        refine r_get (Cn := RX12) (Tt := TX12) (N := 42) (n := 18) rfl uw_X12 (Nat.le_of_ble_eq_true rfl) wd_6_204 ha_x14 hv_x14 dX12_layLine_117 ?_
        refine r_iconst (v := 1) (by decide) dX12_layLine_120 ?_
        refine r_aload_n (j := 0) rfl rfl dX12_layLine_121 ?_
        obtain ⟨fs_x15, x15, ha_x15, hv_x15, hf⟩ := hf
        refine r_get (Cn := RX12) (Tt := TX12) (N := 42) (n := 18) rfl uw_X12 (Nat.le_of_ble_eq_true rfl) wd_6_204 ha_x15 hv_x15 dX12_layLine_122 ?_
        refine r_iconst (v := 0) (by decide) dX12_layLine_125 ?_
        obtain ⟨N_x16, f_x16, ha_x16, hi_x16, hf⟩ := hf
        refine r_iald ha_x16 hi_x16 dX12_layLine_126 ?_
        generalize f_x16 (0 : Int32).toNatClampNeg = x16 at hf ⊢
        refine r_iadd (x := 1) (y := x16) dX12_layLine_127 ?_
        refine r_aload_n (j := 0) rfl rfl dX12_layLine_128 ?_
        obtain ⟨fs_x17, x17, ha_x17, hv_x17, hf⟩ := hf
        refine r_get (Cn := RX12) (Tt := TX12) (N := 42) (n := 7) rfl uw_X12 (Nat.le_of_ble_eq_true rfl) wd_6_193 ha_x17 hv_x17 dX12_layLine_129 ?_
        obtain ⟨N_x19, f_x19, ha_x19, hi_x19, hf⟩ := hf
        generalize hσ18 : hset σ12 x14 (iA N_x19 (up_ f_x19 ((1 + x16) : Int32).toNatClampNeg x17)) = σ18 at hf
        refine r_iast (f := f_x19) (x := x17) ha_x19 hi_x19 dX12_layLine_132 ?_
        refine Eq.mpr (congrArg (fun z => Wd _ _ _ _ _ _ _ _ _ _ _ z _ _ _) hσ18) ?_
        refine r_aload_n (j := 0) rfl rfl dX12_layLine_133 ?_
        obtain ⟨fs_x20, x20, ha_x20, hv_x20, hf⟩ := hf
        refine r_get (Cn := RX12) (Tt := TX12) (N := 42) (n := 18) rfl uw_X12 (Nat.le_of_ble_eq_true rfl) wd_6_204 ha_x20 hv_x20 dX12_layLine_134 ?_
        refine r_iconst (v := 0) (by decide) dX12_layLine_137 ?_
        refine r_dup2 rfl rfl dX12_layLine_138 ?_
        obtain ⟨N_x21, f_x21, ha_x21, hi_x21, hf⟩ := hf
        refine r_iald ha_x21 hi_x21 dX12_layLine_139 ?_
        generalize f_x21 (0 : Int32).toNatClampNeg = x21 at hf ⊢
        refine r_iconst (v := 1) (by decide) dX12_layLine_140 ?_
        refine r_iadd (x := x21) (y := 1) dX12_layLine_141 ?_
        obtain ⟨N_x23, f_x23, ha_x23, hi_x23, hf⟩ := hf
        generalize hσ22 : hset σ18 x20 (iA N_x23 (up_ f_x23 (0 : Int32).toNatClampNeg (x21 + 1))) = σ22 at hf
        refine r_iast (f := f_x23) (x := (x21 + 1)) ha_x23 hi_x23 dX12_layLine_142 ?_
        refine Eq.mpr (congrArg (fun z => Wd _ _ _ _ _ _ _ _ _ _ _ z _ _ _) hσ22) ?_
        refine r_aload_n (j := 0) rfl rfl dX12_layLine_143 ?_
        try unfold C_X12_next at hf
        obtain ⟨⟨fs_r25, ha_r25⟩, hf⟩ := hf
        refine r_invVU (t := 12) (As := []) (dz := d) (mz := 0) (sz := 0) rfl wd_7_96 wd_7_98 wd_p_51 cf_X12_next (Nat.le_refl _) (Nat.zero_le _) (Nat.zero_le _) (cat_ok (Nat.le_of_ble_eq_true rfl)) rfl rfl ha_r25 dX12_layLine_144 hf (fun σ24 hk => ?_)
        replace hf := hk
        clear hk
        exact r_return rfl dX12_layLine_147 rfl ⟨rfl, hf⟩
      · replace hf := hf.2 hc
        exact r_sub [0] rfl (b_X12_layLine_105 hf)
  · replace hf := hf.2 hc
    refine r_iload_n (j := 1) rfl rfl dX12_layLine_48 ?_
    refine r_aload_n (j := 0) rfl rfl dX12_layLine_49 ?_
    obtain ⟨fs_x26, x26, ha_x26, hv_x26, hf⟩ := hf
    refine r_get (Cn := RX12) (Tt := TX12) (N := 42) (n := 28) rfl uw_X12 (Nat.le_of_ble_eq_true rfl) wd_6_214 ha_x26 hv_x26 dX12_layLine_50 ?_
    refine r_aload_n (j := 0) rfl rfl dX12_layLine_53 ?_
    obtain ⟨fs_x27, x27, ha_x27, hv_x27, hf⟩ := hf
    refine r_get (Cn := RX12) (Tt := TX12) (N := 42) (n := 18) rfl uw_X12 (Nat.le_of_ble_eq_true rfl) wd_6_204 ha_x27 hv_x27 dX12_layLine_54 ?_
    refine r_iconst (v := 1) (by decide) dX12_layLine_57 ?_
    refine r_iload_n (j := 2) rfl rfl dX12_layLine_58 ?_
    refine r_iadd (x := 1) (y := v2) dX12_layLine_59 ?_
    obtain ⟨N_x28, f_x28, ha_x28, hi_x28, hf⟩ := hf
    refine r_iald ha_x28 hi_x28 dX12_layLine_60 ?_
    generalize f_x28 ((1 + v2) : Int32).toNatClampNeg = x28 at hf ⊢
    obtain ⟨N_x29, f_x29, ha_x29, hi_x29, hf⟩ := hf
    refine r_iald ha_x29 hi_x29 dX12_layLine_61 ?_
    generalize f_x29 (x28 : Int32).toNatClampNeg = x29 at hf ⊢
    refine r_ior (x := v1) (y := x29) dX12_layLine_62 ?_
    refine r_istore_n (L' := [(1, aI (v1 ||| x29)), (0, aR (some v0)), (2, aI v2)]) rfl rfl (Nat.le_of_ble_eq_true rfl) dX12_layLine_63 ?_
    refine r_iinc (j := 2) (w := (v2 + 1)) (L' := [(2, aI (v2 + 1)), (1, aI (v1 ||| x29)), (0, aR (some v0))]) rfl (by rfl) rfl (Nat.le_of_ble_eq_true rfl) dX12_layLine_64 ?_
    refine r_goto (tgt := 38) (by decide) dX12_layLine_67 ?_
    exact r_sub [2, 1, 0] rfl (hX38 _ _ _ _ hf)
def Z_X12_layLine_38 (l : Launch) (G : GG) (d : Nat) (K : Hp → Prop) : Nat → Nat → Int32 → Int32 → Hp → Prop
  | 0 => fun _ _ _ _ => False
  | n + 1 => fun v0 v1 v2 σ => F_X12_layLine_38 l G d (Z_X12_layLine_38 l G d K n) v0 v1 v2 σ K
theorem z_X12_layLine_38 {l : Launch} {G : GG} {d : Nat} {K : Hp → Prop} : ∀ (n : Nat) v0 v1 v2 σ, Z_X12_layLine_38 l G d K n v0 v1 v2 σ → Wd l G (d + 1) "CoinsLaidModel" yX12_layLine cX12_layLine 3 none 38 [(0, aR (some v0)), (1, aI v1), (2, aI v2)] [] σ 0 0 (xM (QV K)) := by
  intro n
  induction n with
  | zero => intro v0 v1 v2 σ hf; exact hf.elim
  | succ n ih => intro v0 v1 v2 σ hf; exact b_X12_layLine_38 ih hf
def F_X12_layLine (l : Launch) (G : GG) (d : Nat) (v0 : Nat) (σ : Hp) (K : Hp → Prop) : Prop :=
  fZ σ v0 12 13 fun x30 =>
  (x30 = false →
    fI σ v0 12 6 fun x31 =>
    ((x31 : Int32) = (3 : Int32) →
      fN σ v0 12 16 fun x32 =>
      C_X12_layLays l G d v0 x32 σ fun σ33 =>
      ∃ n, Z_X12_layLine_38 l G d K n v0 0 0 σ33) ∧
    (¬ (x31 : Int32) = (3 : Int32) →
      fI σ v0 12 4 fun x35 =>
      C_X12_wrong l G d v0 1 x35 σ fun σ36 =>
      K σ36)) ∧
  (x30 = true →
    K σ)
set_option maxRecDepth 100000 in
set_option maxHeartbeats 4000000 in
theorem b_X12_layLine_0 {l : Launch} {G : GG} {d : Nat} {v0 : Nat} {σ : Hp} {K : Hp → Prop} (hf : F_X12_layLine l G d v0 σ K) : Wd l G (d + 1) "CoinsLaidModel" yX12_layLine cX12_layLine 3 none 0 [(0, aR (some v0))] [] σ 0 0 (xM (QV K)) := by
  unfold F_X12_layLine at hf
  refine r_aload_n (j := 0) rfl rfl dX12_layLine_0 ?_
  obtain ⟨fs_x30, x30, ha_x30, hv_x30, hf⟩ := hf
  refine r_get (Cn := RX12) (Tt := TX12) (N := 42) (n := 13) rfl uw_X12 (Nat.le_of_ble_eq_true rfl) wd_6_199 ha_x30 hv_x30 dX12_layLine_1 ?_
  refine r_ifeqZ (b := x30) (tgt := 8) (by decide) dX12_layLine_4 (fun hc => ?_) (fun hc => ?_)
  · replace hf := hf.1 hc
    refine r_aload_n (j := 0) rfl rfl dX12_layLine_8 ?_
    obtain ⟨fs_x31, x31, ha_x31, hv_x31, hf⟩ := hf
    refine r_get (Cn := RX12) (Tt := TX12) (N := 42) (n := 6) rfl uw_X12 (Nat.le_of_ble_eq_true rfl) wd_6_192 ha_x31 hv_x31 dX12_layLine_9 ?_
    refine r_iconst (v := 3) (by decide) dX12_layLine_12 ?_
    refine r_icmpeq (x := x31) (y := 3) (tgt := 26) (by decide) dX12_layLine_13 (fun hc => ?_) (fun hc => ?_)
    · replace hf := hf.1 hc
      refine r_aload_n (j := 0) rfl rfl dX12_layLine_26 ?_
      refine r_aload_n (j := 0) rfl rfl dX12_layLine_27 ?_
      obtain ⟨fs_x32, x32, ha_x32, hv_x32, hf⟩ := hf
      refine r_get (Cn := RX12) (Tt := TX12) (N := 42) (n := 16) rfl uw_X12 (Nat.le_of_ble_eq_true rfl) wd_6_202 ha_x32 hv_x32 dX12_layLine_28 ?_
      try unfold C_X12_layLays at hf
      obtain ⟨⟨fs_r34, ha_r34⟩, hf⟩ := hf
      refine r_invVU (t := 12) (As := [aR (some x32)]) (dz := d) (mz := 0) (sz := 0) rfl wd_7_199 wd_7_201 wd_p_70 cf_X12_layLays (Nat.le_refl _) (Nat.zero_le _) (Nat.zero_le _) (cat_ok (Nat.le_of_ble_eq_true rfl)) rfl rfl ha_r34 dX12_layLine_31 hf (fun σ33 hk => ?_)
      replace hf := hk
      clear hk
      refine r_iconst (v := 0) (by decide) dX12_layLine_34 ?_
      refine r_istore_n (L' := [(1, aI 0), (0, aR (some v0))]) rfl rfl (Nat.le_of_ble_eq_true rfl) dX12_layLine_35 ?_
      refine r_iconst (v := 0) (by decide) dX12_layLine_36 ?_
      refine r_istore_n (L' := [(2, aI 0), (1, aI 0), (0, aR (some v0))]) rfl rfl (Nat.le_of_ble_eq_true rfl) dX12_layLine_37 ?_
      obtain ⟨n, hf⟩ := hf
      exact r_sub [2, 1, 0] rfl (z_X12_layLine_38 n _ _ _ _ hf)
    · replace hf := hf.2 hc
      refine r_aload_n (j := 0) rfl rfl dX12_layLine_16 ?_
      refine r_iconst (v := 1) (by decide) dX12_layLine_17 ?_
      refine r_aload_n (j := 0) rfl rfl dX12_layLine_18 ?_
      obtain ⟨fs_x35, x35, ha_x35, hv_x35, hf⟩ := hf
      refine r_get (Cn := RX12) (Tt := TX12) (N := 42) (n := 4) rfl uw_X12 (Nat.le_of_ble_eq_true rfl) wd_6_190 ha_x35 hv_x35 dX12_layLine_19 ?_
      try unfold C_X12_wrong at hf
      obtain ⟨⟨fs_r37, ha_r37⟩, hf⟩ := hf
      refine r_invVU (t := 12) (As := [aI 1, aI x35]) (dz := d) (mz := 0) (sz := 0) rfl wd_7_125 wd_7_127 wd_p_56 cf_X12_wrong (Nat.le_refl _) (Nat.zero_le _) (Nat.zero_le _) (cat_ok (Nat.le_of_ble_eq_true rfl)) rfl rfl ha_r37 dX12_layLine_22 hf (fun σ36 hk => ?_)
      replace hf := hk
      clear hk
      exact r_return rfl dX12_layLine_25 rfl ⟨rfl, hf⟩
  · replace hf := hf.2 hc
    exact r_return rfl dX12_layLine_7 rfl ⟨rfl, hf⟩
theorem m_X12_layLine {l : Launch} {G : GG} {d : Nat} {v0 : Nat} {σ : Hp} {K : Hp → Prop} (hr : rv σ v0 12) (hf : F_X12_layLine l G d v0 σ K) : C_X12_layLine l G (d + 1) v0 σ K := ⟨hr, Sp.of (by decide) (Nat.le_of_ble_eq_true rfl) (b_X12_layLine_0 hf) rfl⟩
def F_X12_fault (l : Launch) (G : GG) (d : Nat) (v0 : Nat) (σ : Hp) (K : Int32 → Hp → Prop) : Prop :=
  pF σ v0 12 0 (aI 0) fun σ1 =>
  fI σ1 v0 12 9 fun x3 =>
  K x3 σ1
set_option maxRecDepth 100000 in
set_option maxHeartbeats 4000000 in
theorem b_X12_fault_0 {l : Launch} {G : GG} {d : Nat} {v0 : Nat} {σ : Hp} {K : Int32 → Hp → Prop} (hf : F_X12_fault l G d v0 σ K) : Wd l G (d + 1) "CoinsLaidModel" yX12_fault cX12_fault 1 (some FieldType.int) 0 [(0, aR (some v0))] [] σ 0 0 (xM (QI K)) := by
  unfold F_X12_fault at hf
  refine r_aload_n (j := 0) rfl rfl dX12_fault_0 ?_
  refine r_iconst (v := 0) (by decide) dX12_fault_1 ?_
  obtain ⟨fs_x2, ha_x2, hf⟩ := hf
  generalize hσ1 : hset σ v0 (.inl (12, fs_x2.set 0 (aI 0))) = σ1 at hf
  refine r_put (Cn := RX12) (Tt := TX12) (N := 42) (n := 0) (v := aI 0) rfl uw_X12 (Nat.le_of_ble_eq_true rfl) wd_6_186 ha_x2 (ty0 := tyX12) tyX12_ok nmX12 rfl (fo_I 0) dX12_fault_2 ?_
  rw [hσ1]
  refine r_aload_n (j := 0) rfl rfl dX12_fault_5 ?_
  obtain ⟨fs_x3, x3, ha_x3, hv_x3, hf⟩ := hf
  refine r_get (Cn := RX12) (Tt := TX12) (N := 42) (n := 9) rfl uw_X12 (Nat.le_of_ble_eq_true rfl) wd_6_195 ha_x3 hv_x3 dX12_fault_6 ?_
  exact r_ireturn rfl dX12_fault_9 rfl ⟨_, rfl, hf⟩
theorem m_X12_fault {l : Launch} {G : GG} {d : Nat} {v0 : Nat} {σ : Hp} {K : Int32 → Hp → Prop} (hr : rv σ v0 12) (hf : F_X12_fault l G d v0 σ K) : C_X12_fault l G (d + 1) v0 σ K := ⟨hr, Sp.of (by decide) (Nat.le_of_ble_eq_true rfl) (b_X12_fault_0 hf) rfl⟩
def F_X12_where_21 (l : Launch) (G : GG) (d : Nat) (s0 : Int32) (σ : Hp) (K : Int32 → Hp → Prop) : Prop :=
  K s0 σ
set_option maxRecDepth 100000 in
set_option maxHeartbeats 4000000 in
theorem b_X12_where_21 {l : Launch} {G : GG} {d : Nat} {s0 : Int32} {σ : Hp} {K : Int32 → Hp → Prop} (hf : F_X12_where_21 l G d s0 σ K) : Wd l G (d + 1) "CoinsLaidModel" yX12_where cX12_where 1 (some FieldType.int) 21 [] [aI s0] σ 0 0 (xM (QI K)) := by
  unfold F_X12_where_21 at hf
  exact r_ireturn rfl dX12_where_21 rfl ⟨_, rfl, hf⟩
def F_X12_where (l : Launch) (G : GG) (d : Nat) (v0 : Nat) (σ : Hp) (K : Int32 → Hp → Prop) : Prop :=
  pF σ v0 12 0 (aI 0) fun σ1 =>
  fI σ1 v0 12 11 fun x3 =>
  (¬ (x3 : Int32) = (4 : Int32) →
    F_X12_where_21 l G d (-1) σ1 K) ∧
  ((x3 : Int32) = (4 : Int32) →
    fI σ1 v0 12 10 fun x4 =>
    F_X12_where_21 l G d x4 σ1 K)
set_option maxRecDepth 100000 in
set_option maxHeartbeats 4000000 in
theorem b_X12_where_0 {l : Launch} {G : GG} {d : Nat} {v0 : Nat} {σ : Hp} {K : Int32 → Hp → Prop} (hf : F_X12_where l G d v0 σ K) : Wd l G (d + 1) "CoinsLaidModel" yX12_where cX12_where 1 (some FieldType.int) 0 [(0, aR (some v0))] [] σ 0 0 (xM (QI K)) := by
  unfold F_X12_where at hf
  refine r_aload_n (j := 0) rfl rfl dX12_where_0 ?_
  refine r_iconst (v := 0) (by decide) dX12_where_1 ?_
  obtain ⟨fs_x2, ha_x2, hf⟩ := hf
  generalize hσ1 : hset σ v0 (.inl (12, fs_x2.set 0 (aI 0))) = σ1 at hf
  refine r_put (Cn := RX12) (Tt := TX12) (N := 42) (n := 0) (v := aI 0) rfl uw_X12 (Nat.le_of_ble_eq_true rfl) wd_6_186 ha_x2 (ty0 := tyX12) tyX12_ok nmX12 rfl (fo_I 0) dX12_where_2 ?_
  rw [hσ1]
  refine r_aload_n (j := 0) rfl rfl dX12_where_5 ?_
  obtain ⟨fs_x3, x3, ha_x3, hv_x3, hf⟩ := hf
  refine r_get (Cn := RX12) (Tt := TX12) (N := 42) (n := 11) rfl uw_X12 (Nat.le_of_ble_eq_true rfl) wd_6_197 ha_x3 hv_x3 dX12_where_6 ?_
  refine r_iconst (v := 4) (by decide) dX12_where_9 ?_
  refine r_icmpne (x := x3) (y := 4) (tgt := 20) (by decide) dX12_where_10 (fun hc => ?_) (fun hc => ?_)
  · replace hf := hf.1 hc
    refine r_iconst (v := (-1)) (by decide) dX12_where_20 ?_
    exact r_sub [] rfl (b_X12_where_21 hf)
  · replace hf := hf.2 hc
    refine r_aload_n (j := 0) rfl rfl dX12_where_13 ?_
    obtain ⟨fs_x4, x4, ha_x4, hv_x4, hf⟩ := hf
    refine r_get (Cn := RX12) (Tt := TX12) (N := 42) (n := 10) rfl uw_X12 (Nat.le_of_ble_eq_true rfl) wd_6_196 ha_x4 hv_x4 dX12_where_14 ?_
    refine r_goto (tgt := 21) (by decide) dX12_where_17 ?_
    exact r_sub [] rfl (b_X12_where_21 hf)
theorem m_X12_where {l : Launch} {G : GG} {d : Nat} {v0 : Nat} {σ : Hp} {K : Int32 → Hp → Prop} (hr : rv σ v0 12) (hf : F_X12_where l G d v0 σ K) : C_X12_where l G (d + 1) v0 σ K := ⟨hr, Sp.of (by decide) (Nat.le_of_ble_eq_true rfl) (b_X12_where_0 hf) rfl⟩
def F_X12_hasSquare_110 (l : Launch) (G : GG) (d : Nat) (s0 : Bool) (σ : Hp) (K : Bool → Hp → Prop) : Prop :=
  K s0 σ
set_option maxRecDepth 100000 in
set_option maxHeartbeats 4000000 in
theorem b_X12_hasSquare_110 {l : Launch} {G : GG} {d : Nat} {s0 : Bool} {σ : Hp} {K : Bool → Hp → Prop} (hf : F_X12_hasSquare_110 l G d s0 σ K) : Wd l G (d + 1) "CoinsLaidModel" yX12_hasSquare cX12_hasSquare 11 (some FieldType.boolean) 110 [] [aI (bi s0)] σ 0 0 (xM (QZ K)) := by
  unfold F_X12_hasSquare_110 at hf
  exact r_zreturn (b := s0) rfl dX12_hasSquare_110 rfl ⟨_, rfl, hf⟩
def F_X12_hasSquare_105 (l : Launch) (G : GG) (d : Nat) (σ : Hp) (K : Bool → Hp → Prop) : Prop :=
  F_X12_hasSquare_110 l G d true σ K
set_option maxRecDepth 100000 in
set_option maxHeartbeats 4000000 in
theorem b_X12_hasSquare_105 {l : Launch} {G : GG} {d : Nat} {σ : Hp} {K : Bool → Hp → Prop} (hf : F_X12_hasSquare_105 l G d  σ K) : Wd l G (d + 1) "CoinsLaidModel" yX12_hasSquare cX12_hasSquare 11 (some FieldType.boolean) 105 [] [] σ 0 0 (xM (QZ K)) := by
  unfold F_X12_hasSquare_105 at hf
  refine r_iconst (v := 1) (by decide) dX12_hasSquare_105 ?_
  refine r_goto (tgt := 110) (by decide) dX12_hasSquare_106 ?_
  exact r_sub [] rfl (b_X12_hasSquare_110 hf)
def F_X12_hasSquare_90 (l : Launch) (G : GG) (d : Nat) (v3 : Int32) (v4 : Int32) (v9 : Int32) (s0 : Int32) (σ : Hp) (K : Bool → Hp → Prop) : Prop :=
  (¬ (v3 : Int32) = (v9 : Int32) →
    F_X12_hasSquare_105 l G d σ K) ∧
  ((v3 : Int32) = (v9 : Int32) →
    ((v4 : Int32) = (s0 : Int32) →
      F_X12_hasSquare_110 l G d false σ K) ∧
    (¬ (v4 : Int32) = (s0 : Int32) →
      F_X12_hasSquare_105 l G d σ K))
set_option maxRecDepth 100000 in
set_option maxHeartbeats 4000000 in
theorem b_X12_hasSquare_90 {l : Launch} {G : GG} {d : Nat} {v3 : Int32} {v4 : Int32} {v9 : Int32} {s0 : Int32} {σ : Hp} {K : Bool → Hp → Prop} (hf : F_X12_hasSquare_90 l G d v3 v4 v9 s0 σ K) : Wd l G (d + 1) "CoinsLaidModel" yX12_hasSquare cX12_hasSquare 11 (some FieldType.boolean) 90 [(3, aI v3), (4, aI v4), (9, aI v9)] [aI s0] σ 0 0 (xM (QZ K)) := by
  unfold F_X12_hasSquare_90 at hf
  refine r_istore (L' := [(10, aI s0), (3, aI v3), (4, aI v4), (9, aI v9)]) rfl (Nat.le_of_ble_eq_true rfl) dX12_hasSquare_90 ?_
  refine r_iload_n (j := 1) rfl rfl dX12_hasSquare_92 ?_
  refine r_iload (j := 3) rfl dX12_hasSquare_93 ?_
  refine r_icmpne (x := v3) (y := v9) (tgt := 105) (by decide) dX12_hasSquare_95 (fun hc => ?_) (fun hc => ?_)
  · replace hf := hf.1 hc
    exact r_sub [] rfl (b_X12_hasSquare_105 hf)
  · replace hf := hf.2 hc
    refine r_iload (j := 2) rfl dX12_hasSquare_98 ?_
    refine r_iload (j := 0) rfl dX12_hasSquare_100 ?_
    refine r_icmpeq (x := v4) (y := s0) (tgt := 109) (by decide) dX12_hasSquare_102 (fun hc => ?_) (fun hc => ?_)
    · replace hf := hf.1 hc
      refine r_iconst (v := 0) (by decide) dX12_hasSquare_109 ?_
      exact r_sub [] rfl (b_X12_hasSquare_110 hf)
    · replace hf := hf.2 hc
      exact r_sub [] rfl (b_X12_hasSquare_105 hf)
def F_X12_hasSquare_75 (l : Launch) (G : GG) (d : Nat) (v2 : Int32) (v3 : Int32) (v4 : Int32) (v8 : Int32) (s0 : Int32) (σ : Hp) (K : Bool → Hp → Prop) : Prop :=
  ((2 : Int32) ≤ (v2 : Int32) →
    F_X12_hasSquare_90 l G d v3 v4 s0 0 σ K) ∧
  (¬ (2 : Int32) ≤ (v2 : Int32) →
    F_X12_hasSquare_90 l G d v3 v4 s0 (v8 - 1) σ K)
set_option maxRecDepth 100000 in
set_option maxHeartbeats 4000000 in
theorem b_X12_hasSquare_75 {l : Launch} {G : GG} {d : Nat} {v2 : Int32} {v3 : Int32} {v4 : Int32} {v8 : Int32} {s0 : Int32} {σ : Hp} {K : Bool → Hp → Prop} (hf : F_X12_hasSquare_75 l G d v2 v3 v4 v8 s0 σ K) : Wd l G (d + 1) "CoinsLaidModel" yX12_hasSquare cX12_hasSquare 11 (some FieldType.boolean) 75 [(2, aI v2), (3, aI v3), (4, aI v4), (8, aI v8)] [aI s0] σ 0 0 (xM (QZ K)) := by
  unfold F_X12_hasSquare_75 at hf
  refine r_istore (L' := [(9, aI s0), (2, aI v2), (3, aI v3), (4, aI v4), (8, aI v8)]) rfl (Nat.le_of_ble_eq_true rfl) dX12_hasSquare_75 ?_
  refine r_iload_n (j := 1) rfl rfl dX12_hasSquare_77 ?_
  refine r_iconst (v := 2) (by decide) dX12_hasSquare_78 ?_
  refine r_icmpge (x := v2) (y := 2) (tgt := 89) (by decide) dX12_hasSquare_79 (fun hc => ?_) (fun hc => ?_)
  · replace hf := hf.1 hc
    refine r_iconst (v := 0) (by decide) dX12_hasSquare_89 ?_
    exact r_sub [2, 3, 0] rfl (b_X12_hasSquare_90 hf)
  · replace hf := hf.2 hc
    refine r_iload (j := 4) rfl dX12_hasSquare_82 ?_
    refine r_iconst (v := 1) (by decide) dX12_hasSquare_84 ?_
    refine r_isub (x := v8) (y := 1) dX12_hasSquare_85 ?_
    refine r_goto (tgt := 90) (by decide) dX12_hasSquare_86 ?_
    exact r_sub [2, 3, 0] rfl (b_X12_hasSquare_90 hf)
def F_X12_hasSquare_67 (l : Launch) (G : GG) (d : Nat) (v2 : Int32) (v3 : Int32) (v4 : Int32) (v7 : Int32) (v8 : Int32) (σ : Hp) (K : Bool → Hp → Prop) : Prop :=
  F_X12_hasSquare_75 l G d v2 v3 v4 v8 (v7 - 1) σ K
set_option maxRecDepth 100000 in
set_option maxHeartbeats 4000000 in
theorem b_X12_hasSquare_67 {l : Launch} {G : GG} {d : Nat} {v2 : Int32} {v3 : Int32} {v4 : Int32} {v7 : Int32} {v8 : Int32} {σ : Hp} {K : Bool → Hp → Prop} (hf : F_X12_hasSquare_67 l G d v2 v3 v4 v7 v8 σ K) : Wd l G (d + 1) "CoinsLaidModel" yX12_hasSquare cX12_hasSquare 11 (some FieldType.boolean) 67 [(2, aI v2), (3, aI v3), (4, aI v4), (7, aI v7), (8, aI v8)] [] σ 0 0 (xM (QZ K)) := by
  unfold F_X12_hasSquare_67 at hf
  refine r_iload (j := 3) rfl dX12_hasSquare_67 ?_
  refine r_iconst (v := 1) (by decide) dX12_hasSquare_69 ?_
  refine r_isub (x := v7) (y := 1) dX12_hasSquare_70 ?_
  refine r_goto (tgt := 75) (by decide) dX12_hasSquare_71 ?_
  exact r_sub [0, 1, 2, 4] rfl (b_X12_hasSquare_75 hf)
def F_X12_hasSquare_56 (l : Launch) (G : GG) (d : Nat) (v2 : Int32) (v3 : Int32) (v4 : Int32) (v7 : Int32) (s0 : Int32) (σ : Hp) (K : Bool → Hp → Prop) : Prop :=
  ((v2 : Int32) = 0 →
    F_X12_hasSquare_67 l G d v2 v3 v4 v7 s0 σ K) ∧
  (¬ (v2 : Int32) = 0 →
    (¬ (v2 : Int32) = (3 : Int32) →
      F_X12_hasSquare_75 l G d v2 v3 v4 s0 0 σ K) ∧
    ((v2 : Int32) = (3 : Int32) →
      F_X12_hasSquare_67 l G d v2 v3 v4 v7 s0 σ K))
set_option maxRecDepth 100000 in
set_option maxHeartbeats 4000000 in
theorem b_X12_hasSquare_56 {l : Launch} {G : GG} {d : Nat} {v2 : Int32} {v3 : Int32} {v4 : Int32} {v7 : Int32} {s0 : Int32} {σ : Hp} {K : Bool → Hp → Prop} (hf : F_X12_hasSquare_56 l G d v2 v3 v4 v7 s0 σ K) : Wd l G (d + 1) "CoinsLaidModel" yX12_hasSquare cX12_hasSquare 11 (some FieldType.boolean) 56 [(2, aI v2), (3, aI v3), (4, aI v4), (7, aI v7)] [aI s0] σ 0 0 (xM (QZ K)) := by
  unfold F_X12_hasSquare_56 at hf
  refine r_istore (L' := [(8, aI s0), (2, aI v2), (3, aI v3), (4, aI v4), (7, aI v7)]) rfl (Nat.le_of_ble_eq_true rfl) dX12_hasSquare_56 ?_
  refine r_iload_n (j := 1) rfl rfl dX12_hasSquare_58 ?_
  refine r_ifeq (x := v2) (tgt := 67) (by decide) dX12_hasSquare_59 (fun hc => ?_) (fun hc => ?_)
  · replace hf := hf.1 hc
    exact r_sub [1, 2, 3, 4, 0] rfl (b_X12_hasSquare_67 hf)
  · replace hf := hf.2 hc
    refine r_iload_n (j := 1) rfl rfl dX12_hasSquare_62 ?_
    refine r_iconst (v := 3) (by decide) dX12_hasSquare_63 ?_
    refine r_icmpne (x := v2) (y := 3) (tgt := 74) (by decide) dX12_hasSquare_64 (fun hc => ?_) (fun hc => ?_)
    · replace hf := hf.1 hc
      refine r_iconst (v := 0) (by decide) dX12_hasSquare_74 ?_
      exact r_sub [1, 2, 3, 0] rfl (b_X12_hasSquare_75 hf)
    · replace hf := hf.2 hc
      exact r_sub [1, 2, 3, 4, 0] rfl (b_X12_hasSquare_67 hf)
def F_X12_hasSquare_41 (l : Launch) (G : GG) (d : Nat) (v2 : Int32) (v3 : Int32) (v4 : Int32) (v5 : Int32) (v6 : Int32) (s0 : Int32) (σ : Hp) (K : Bool → Hp → Prop) : Prop :=
  ¬ (2 : Int32) = 0 ∧
  (¬ ((v2 - v2 / 2 * 2) : Int32) = 0 →
    F_X12_hasSquare_56 l G d v2 v3 v4 s0 v5 σ K) ∧
  (((v2 - v2 / 2 * 2) : Int32) = 0 →
    F_X12_hasSquare_56 l G d v2 v3 v4 s0 v6 σ K)
set_option maxRecDepth 100000 in
set_option maxHeartbeats 4000000 in
theorem b_X12_hasSquare_41 {l : Launch} {G : GG} {d : Nat} {v2 : Int32} {v3 : Int32} {v4 : Int32} {v5 : Int32} {v6 : Int32} {s0 : Int32} {σ : Hp} {K : Bool → Hp → Prop} (hf : F_X12_hasSquare_41 l G d v2 v3 v4 v5 v6 s0 σ K) : Wd l G (d + 1) "CoinsLaidModel" yX12_hasSquare cX12_hasSquare 11 (some FieldType.boolean) 41 [(2, aI v2), (3, aI v3), (4, aI v4), (5, aI v5), (6, aI v6)] [aI s0] σ 0 0 (xM (QZ K)) := by
  unfold F_X12_hasSquare_41 at hf
  refine r_istore (L' := [(7, aI s0), (2, aI v2), (3, aI v3), (4, aI v4), (5, aI v5), (6, aI v6)]) rfl (Nat.le_of_ble_eq_true rfl) dX12_hasSquare_41 ?_
  refine r_iload_n (j := 1) rfl rfl dX12_hasSquare_43 ?_
  refine r_iconst (v := 2) (by decide) dX12_hasSquare_44 ?_
  obtain ⟨hne, hf⟩ := hf
  refine r_irem hne dX12_hasSquare_45 ?_
  refine r_ifne (x := (v2 - v2 / 2 * 2)) (tgt := 54) (by decide) dX12_hasSquare_46 (fun hc => ?_) (fun hc => ?_)
  · replace hf := hf.1 hc
    refine r_iload (j := 4) rfl dX12_hasSquare_54 ?_
    exact r_sub [1, 2, 3, 0] rfl (b_X12_hasSquare_56 hf)
  · replace hf := hf.2 hc
    refine r_iload (j := 5) rfl dX12_hasSquare_49 ?_
    refine r_goto (tgt := 56) (by decide) dX12_hasSquare_51 ?_
    exact r_sub [1, 2, 3, 0] rfl (b_X12_hasSquare_56 hf)
def F_X12_hasSquare (l : Launch) (G : GG) (d : Nat) (v0 : Nat) (v1 : Int32) (v2 : Int32) (v3 : Int32) (v4 : Int32) (σ : Hp) (K : Bool → Hp → Prop) : Prop :=
  gI σ v0 (21 + v1) fun x1 =>
  gI σ v0 (25 + v1) fun x2 =>
  gI σ v0 (17 + v1) fun x3 =>
  ((x3 : Int32) = (2 : Int32) →
    ¬ (2 : Int32) = 0 ∧
    (¬ ((v2 - v2 / 2 * 2) : Int32) = 0 →
      F_X12_hasSquare_41 l G d v2 v3 v4 x1 x2 x2 σ K) ∧
    (((v2 - v2 / 2 * 2) : Int32) = 0 →
      F_X12_hasSquare_41 l G d v2 v3 v4 x1 x2 x1 σ K)) ∧
  (¬ (x3 : Int32) = (2 : Int32) →
    K true σ)
set_option maxRecDepth 100000 in
set_option maxHeartbeats 4000000 in
theorem b_X12_hasSquare_0 {l : Launch} {G : GG} {d : Nat} {v0 : Nat} {v1 : Int32} {v2 : Int32} {v3 : Int32} {v4 : Int32} {σ : Hp} {K : Bool → Hp → Prop} (hf : F_X12_hasSquare l G d v0 v1 v2 v3 v4 σ K) : Wd l G (d + 1) "CoinsLaidModel" yX12_hasSquare cX12_hasSquare 11 (some FieldType.boolean) 0 [(0, aR (some v0)), (1, aI v1), (2, aI v2), (3, aI v3), (4, aI v4)] [] σ 0 0 (xM (QZ K)) := by
  unfold F_X12_hasSquare at hf
  refine r_aload_n (j := 0) rfl rfl dX12_hasSquare_0 ?_
  refine r_bipush (v := 21) (by decide) dX12_hasSquare_1 ?_
  refine r_iload_n (j := 1) rfl rfl dX12_hasSquare_3 ?_
  refine r_iadd (x := 21) (y := v1) dX12_hasSquare_4 ?_
  obtain ⟨N_x1, f_x1, ha_x1, hi_x1, hf⟩ := hf
  refine r_iald ha_x1 hi_x1 dX12_hasSquare_5 ?_
  generalize f_x1 ((21 + v1) : Int32).toNatClampNeg = x1 at hf ⊢
  refine r_istore (L' := [(5, aI x1), (0, aR (some v0)), (1, aI v1), (2, aI v2), (3, aI v3), (4, aI v4)]) rfl (Nat.le_of_ble_eq_true rfl) dX12_hasSquare_6 ?_
  refine r_aload_n (j := 1) rfl rfl dX12_hasSquare_8 ?_
  refine r_bipush (v := 25) (by decide) dX12_hasSquare_9 ?_
  refine r_iload_n (j := 2) rfl rfl dX12_hasSquare_11 ?_
  refine r_iadd (x := 25) (y := v1) dX12_hasSquare_12 ?_
  obtain ⟨N_x2, f_x2, ha_x2, hi_x2, hf⟩ := hf
  refine r_iald ha_x2 hi_x2 dX12_hasSquare_13 ?_
  generalize f_x2 ((25 + v1) : Int32).toNatClampNeg = x2 at hf ⊢
  refine r_istore (L' := [(6, aI x2), (5, aI x1), (0, aR (some v0)), (1, aI v1), (2, aI v2), (3, aI v3), (4, aI v4)]) rfl (Nat.le_of_ble_eq_true rfl) dX12_hasSquare_14 ?_
  refine r_aload_n (j := 2) rfl rfl dX12_hasSquare_16 ?_
  refine r_bipush (v := 17) (by decide) dX12_hasSquare_17 ?_
  refine r_iload_n (j := 3) rfl rfl dX12_hasSquare_19 ?_
  refine r_iadd (x := 17) (y := v1) dX12_hasSquare_20 ?_
  obtain ⟨N_x3, f_x3, ha_x3, hi_x3, hf⟩ := hf
  refine r_iald ha_x3 hi_x3 dX12_hasSquare_21 ?_
  generalize f_x3 ((17 + v1) : Int32).toNatClampNeg = x3 at hf ⊢
  refine r_iconst (v := 2) (by decide) dX12_hasSquare_22 ?_
  refine r_icmpeq (x := x3) (y := 2) (tgt := 28) (by decide) dX12_hasSquare_23 (fun hc => ?_) (fun hc => ?_)
  · replace hf := hf.1 hc
    refine r_iload_n (j := 4) rfl rfl dX12_hasSquare_28 ?_
    refine r_iconst (v := 2) (by decide) dX12_hasSquare_29 ?_
    obtain ⟨hne, hf⟩ := hf
    refine r_irem hne dX12_hasSquare_30 ?_
    refine r_ifne (x := (v2 - v2 / 2 * 2)) (tgt := 39) (by decide) dX12_hasSquare_31 (fun hc => ?_) (fun hc => ?_)
    · replace hf := hf.1 hc
      refine r_iload (j := 0) rfl dX12_hasSquare_39 ?_
      exact r_sub [4, 5, 6, 1, 0] rfl (b_X12_hasSquare_41 hf)
    · replace hf := hf.2 hc
      refine r_iload (j := 1) rfl dX12_hasSquare_34 ?_
      refine r_goto (tgt := 41) (by decide) dX12_hasSquare_36 ?_
      exact r_sub [4, 5, 6, 1, 0] rfl (b_X12_hasSquare_41 hf)
  · replace hf := hf.2 hc
    refine r_iconst (v := 1) (by decide) dX12_hasSquare_26 ?_
    exact r_zreturn (b := true) rfl dX12_hasSquare_27 rfl ⟨_, rfl, hf⟩
theorem m_X12_hasSquare {l : Launch} {G : GG} {d : Nat} {v0 : Nat} {v1 : Int32} {v2 : Int32} {v3 : Int32} {v4 : Int32} {σ : Hp} {K : Bool → Hp → Prop} (hf : F_X12_hasSquare l G d v0 v1 v2 v3 v4 σ K) : C_X12_hasSquare l G (d + 1) v0 v1 v2 v3 v4 σ K := Sp.of (by decide) (Nat.le_of_ble_eq_true rfl) (b_X12_hasSquare_0 hf) rfl
def F_X12_wideOf_14 (l : Launch) (G : GG) (d : Nat) (v1 : Int32) (s0 : Nat) (s1 : Int32) (σ : Hp) (K : Int32 → Hp → Prop) : Prop :=
  gI σ s0 (s1 + v1) fun x1 =>
  K x1 σ
set_option maxRecDepth 100000 in
set_option maxHeartbeats 4000000 in
theorem b_X12_wideOf_14 {l : Launch} {G : GG} {d : Nat} {v1 : Int32} {s0 : Nat} {s1 : Int32} {σ : Hp} {K : Int32 → Hp → Prop} (hf : F_X12_wideOf_14 l G d v1 s0 s1 σ K) : Wd l G (d + 1) "CoinsLaidModel" yX12_wideOf cX12_wideOf 3 (some FieldType.int) 14 [(1, aI v1)] [aI s1, aR (some s0)] σ 0 0 (xM (QI K)) := by
  unfold F_X12_wideOf_14 at hf
  refine r_iload_n (j := 0) rfl rfl dX12_wideOf_14 ?_
  refine r_iadd (x := s1) (y := v1) dX12_wideOf_15 ?_
  obtain ⟨N_x1, f_x1, ha_x1, hi_x1, hf⟩ := hf
  refine r_iald ha_x1 hi_x1 dX12_wideOf_16 ?_
  generalize f_x1 ((s1 + v1) : Int32).toNatClampNeg = x1 at hf ⊢
  exact r_ireturn rfl dX12_wideOf_17 rfl ⟨_, rfl, hf⟩
def F_X12_wideOf (l : Launch) (G : GG) (d : Nat) (v0 : Nat) (v1 : Int32) (v2 : Int32) (σ : Hp) (K : Int32 → Hp → Prop) : Prop :=
  ¬ (2 : Int32) = 0 ∧
  (¬ ((v2 - v2 / 2 * 2) : Int32) = 0 →
    F_X12_wideOf_14 l G d v1 v0 25 σ K) ∧
  (((v2 - v2 / 2 * 2) : Int32) = 0 →
    F_X12_wideOf_14 l G d v1 v0 21 σ K)
set_option maxRecDepth 100000 in
set_option maxHeartbeats 4000000 in
theorem b_X12_wideOf_0 {l : Launch} {G : GG} {d : Nat} {v0 : Nat} {v1 : Int32} {v2 : Int32} {σ : Hp} {K : Int32 → Hp → Prop} (hf : F_X12_wideOf l G d v0 v1 v2 σ K) : Wd l G (d + 1) "CoinsLaidModel" yX12_wideOf cX12_wideOf 3 (some FieldType.int) 0 [(0, aR (some v0)), (1, aI v1), (2, aI v2)] [] σ 0 0 (xM (QI K)) := by
  unfold F_X12_wideOf at hf
  refine r_aload_n (j := 0) rfl rfl dX12_wideOf_0 ?_
  refine r_iload_n (j := 2) rfl rfl dX12_wideOf_1 ?_
  refine r_iconst (v := 2) (by decide) dX12_wideOf_2 ?_
  obtain ⟨hne, hf⟩ := hf
  refine r_irem hne dX12_wideOf_3 ?_
  refine r_ifne (x := (v2 - v2 / 2 * 2)) (tgt := 12) (by decide) dX12_wideOf_4 (fun hc => ?_) (fun hc => ?_)
  · replace hf := hf.1 hc
    refine r_bipush (v := 25) (by decide) dX12_wideOf_12 ?_
    exact r_sub [1] rfl (b_X12_wideOf_14 hf)
  · replace hf := hf.2 hc
    refine r_bipush (v := 21) (by decide) dX12_wideOf_7 ?_
    refine r_goto (tgt := 14) (by decide) dX12_wideOf_9 ?_
    exact r_sub [1] rfl (b_X12_wideOf_14 hf)
theorem m_X12_wideOf {l : Launch} {G : GG} {d : Nat} {v0 : Nat} {v1 : Int32} {v2 : Int32} {σ : Hp} {K : Int32 → Hp → Prop} (hf : F_X12_wideOf l G d v0 v1 v2 σ K) : C_X12_wideOf l G (d + 1) v0 v1 v2 σ K := Sp.of (by decide) (Nat.le_of_ble_eq_true rfl) (b_X12_wideOf_0 hf) rfl
def F_X12_highOf_14 (l : Launch) (G : GG) (d : Nat) (v1 : Int32) (s0 : Nat) (s1 : Int32) (σ : Hp) (K : Int32 → Hp → Prop) : Prop :=
  gI σ s0 (s1 + v1) fun x1 =>
  K x1 σ
set_option maxRecDepth 100000 in
set_option maxHeartbeats 4000000 in
theorem b_X12_highOf_14 {l : Launch} {G : GG} {d : Nat} {v1 : Int32} {s0 : Nat} {s1 : Int32} {σ : Hp} {K : Int32 → Hp → Prop} (hf : F_X12_highOf_14 l G d v1 s0 s1 σ K) : Wd l G (d + 1) "CoinsLaidModel" yX12_highOf cX12_highOf 3 (some FieldType.int) 14 [(1, aI v1)] [aI s1, aR (some s0)] σ 0 0 (xM (QI K)) := by
  unfold F_X12_highOf_14 at hf
  refine r_iload_n (j := 0) rfl rfl dX12_highOf_14 ?_
  refine r_iadd (x := s1) (y := v1) dX12_highOf_15 ?_
  obtain ⟨N_x1, f_x1, ha_x1, hi_x1, hf⟩ := hf
  refine r_iald ha_x1 hi_x1 dX12_highOf_16 ?_
  generalize f_x1 ((s1 + v1) : Int32).toNatClampNeg = x1 at hf ⊢
  exact r_ireturn rfl dX12_highOf_17 rfl ⟨_, rfl, hf⟩
def F_X12_highOf (l : Launch) (G : GG) (d : Nat) (v0 : Nat) (v1 : Int32) (v2 : Int32) (σ : Hp) (K : Int32 → Hp → Prop) : Prop :=
  ¬ (2 : Int32) = 0 ∧
  (¬ ((v2 - v2 / 2 * 2) : Int32) = 0 →
    F_X12_highOf_14 l G d v1 v0 21 σ K) ∧
  (((v2 - v2 / 2 * 2) : Int32) = 0 →
    F_X12_highOf_14 l G d v1 v0 25 σ K)
set_option maxRecDepth 100000 in
set_option maxHeartbeats 4000000 in
theorem b_X12_highOf_0 {l : Launch} {G : GG} {d : Nat} {v0 : Nat} {v1 : Int32} {v2 : Int32} {σ : Hp} {K : Int32 → Hp → Prop} (hf : F_X12_highOf l G d v0 v1 v2 σ K) : Wd l G (d + 1) "CoinsLaidModel" yX12_highOf cX12_highOf 3 (some FieldType.int) 0 [(0, aR (some v0)), (1, aI v1), (2, aI v2)] [] σ 0 0 (xM (QI K)) := by
  unfold F_X12_highOf at hf
  refine r_aload_n (j := 0) rfl rfl dX12_highOf_0 ?_
  refine r_iload_n (j := 2) rfl rfl dX12_highOf_1 ?_
  refine r_iconst (v := 2) (by decide) dX12_highOf_2 ?_
  obtain ⟨hne, hf⟩ := hf
  refine r_irem hne dX12_highOf_3 ?_
  refine r_ifne (x := (v2 - v2 / 2 * 2)) (tgt := 12) (by decide) dX12_highOf_4 (fun hc => ?_) (fun hc => ?_)
  · replace hf := hf.1 hc
    refine r_bipush (v := 21) (by decide) dX12_highOf_12 ?_
    exact r_sub [1] rfl (b_X12_highOf_14 hf)
  · replace hf := hf.2 hc
    refine r_bipush (v := 25) (by decide) dX12_highOf_7 ?_
    refine r_goto (tgt := 14) (by decide) dX12_highOf_9 ?_
    exact r_sub [1] rfl (b_X12_highOf_14 hf)
theorem m_X12_highOf {l : Launch} {G : GG} {d : Nat} {v0 : Nat} {v1 : Int32} {v2 : Int32} {σ : Hp} {K : Int32 → Hp → Prop} (hf : F_X12_highOf l G d v0 v1 v2 σ K) : C_X12_highOf l G (d + 1) v0 v1 v2 σ K := Sp.of (by decide) (Nat.le_of_ble_eq_true rfl) (b_X12_highOf_0 hf) rfl
def F_X12_isAgain_110 (l : Launch) (G : GG) (d : Nat) (X2 : Nat → Int32 → Int32 → Int32 → Hp → Prop) (X47 : Nat → Int32 → Int32 → Int32 → Bool → Int32 → Hp → Prop) (X66 : Nat → Int32 → Int32 → Int32 → Bool → Int32 → Int32 → Hp → Prop) (v0 : Nat) (v1 : Int32) (v2 : Int32) (v3 : Int32) (v5 : Int32) (v6 : Int32) (s0 : Bool) (σ : Hp) (K : Bool → Hp → Prop) : Prop :=
  X66 v0 v1 v2 v3 s0 v5 (v6 + 1) σ
set_option maxRecDepth 100000 in
set_option maxHeartbeats 4000000 in
theorem b_X12_isAgain_110 {l : Launch} {G : GG} {d : Nat} {X2 : Nat → Int32 → Int32 → Int32 → Hp → Prop} {X47 : Nat → Int32 → Int32 → Int32 → Bool → Int32 → Hp → Prop} {X66 : Nat → Int32 → Int32 → Int32 → Bool → Int32 → Int32 → Hp → Prop} {v0 : Nat} {v1 : Int32} {v2 : Int32} {v3 : Int32} {v5 : Int32} {v6 : Int32} {s0 : Bool} {σ : Hp} {K : Bool → Hp → Prop} (hX2 : ∀ v0 v1 v2 v3 σ, X2 v0 v1 v2 v3 σ → Wd l G (d + 1) "CoinsLaidModel" yX12_isAgain cX12_isAgain 7 (some FieldType.boolean) 2 [(0, aR (some v0)), (1, aI v1), (2, aI v2), (3, aI v3)] [] σ 0 0 (xM (QZ K))) (hX47 : ∀ v0 v1 v2 v3 v4 v5 σ, X47 v0 v1 v2 v3 v4 v5 σ → Wd l G (d + 1) "CoinsLaidModel" yX12_isAgain cX12_isAgain 7 (some FieldType.boolean) 47 [(0, aR (some v0)), (1, aI v1), (2, aI v2), (3, aI v3), (4, aI (bi v4)), (5, aI v5)] [] σ 0 0 (xM (QZ K))) (hX66 : ∀ v0 v1 v2 v3 v4 v5 v6 σ, X66 v0 v1 v2 v3 v4 v5 v6 σ → Wd l G (d + 1) "CoinsLaidModel" yX12_isAgain cX12_isAgain 7 (some FieldType.boolean) 66 [(0, aR (some v0)), (1, aI v1), (2, aI v2), (3, aI v3), (4, aI (bi v4)), (5, aI v5), (6, aI v6)] [] σ 0 0 (xM (QZ K))) (hf : F_X12_isAgain_110 l G d X2 X47 X66 v0 v1 v2 v3 v5 v6 s0 σ K) : Wd l G (d + 1) "CoinsLaidModel" yX12_isAgain cX12_isAgain 7 (some FieldType.boolean) 110 [(0, aR (some v0)), (1, aI v1), (2, aI v2), (3, aI v3), (5, aI v5), (6, aI v6)] [aI (bi s0)] σ 0 0 (xM (QZ K)) := by
  unfold F_X12_isAgain_110 at hf
  refine r_istore (L' := [(4, aI (bi s0)), (0, aR (some v0)), (1, aI v1), (2, aI v2), (3, aI v3), (5, aI v5), (6, aI v6)]) rfl (Nat.le_of_ble_eq_true rfl) dX12_isAgain_110 ?_
  refine r_iinc (j := 6) (w := (v6 + 1)) (L' := [(6, aI (v6 + 1)), (4, aI (bi s0)), (0, aR (some v0)), (1, aI v1), (2, aI v2), (3, aI v3), (5, aI v5)]) rfl (by rfl) rfl (Nat.le_of_ble_eq_true rfl) dX12_isAgain_112 ?_
  refine r_goto (tgt := 66) (by decide) dX12_isAgain_115 ?_
  exact r_sub [2, 3, 4, 5, 1, 6, 0] rfl (hX66 _ _ _ _ _ _ _ _ hf)
def F_X12_isAgain_109 (l : Launch) (G : GG) (d : Nat) (X2 : Nat → Int32 → Int32 → Int32 → Hp → Prop) (X47 : Nat → Int32 → Int32 → Int32 → Bool → Int32 → Hp → Prop) (X66 : Nat → Int32 → Int32 → Int32 → Bool → Int32 → Int32 → Hp → Prop) (v0 : Nat) (v1 : Int32) (v2 : Int32) (v3 : Int32) (v5 : Int32) (v6 : Int32) (σ : Hp) (K : Bool → Hp → Prop) : Prop :=
  F_X12_isAgain_110 l G d X2 X47 X66 v0 v1 v2 v3 v5 v6 false σ K
set_option maxRecDepth 100000 in
set_option maxHeartbeats 4000000 in
theorem b_X12_isAgain_109 {l : Launch} {G : GG} {d : Nat} {X2 : Nat → Int32 → Int32 → Int32 → Hp → Prop} {X47 : Nat → Int32 → Int32 → Int32 → Bool → Int32 → Hp → Prop} {X66 : Nat → Int32 → Int32 → Int32 → Bool → Int32 → Int32 → Hp → Prop} {v0 : Nat} {v1 : Int32} {v2 : Int32} {v3 : Int32} {v5 : Int32} {v6 : Int32} {σ : Hp} {K : Bool → Hp → Prop} (hX2 : ∀ v0 v1 v2 v3 σ, X2 v0 v1 v2 v3 σ → Wd l G (d + 1) "CoinsLaidModel" yX12_isAgain cX12_isAgain 7 (some FieldType.boolean) 2 [(0, aR (some v0)), (1, aI v1), (2, aI v2), (3, aI v3)] [] σ 0 0 (xM (QZ K))) (hX47 : ∀ v0 v1 v2 v3 v4 v5 σ, X47 v0 v1 v2 v3 v4 v5 σ → Wd l G (d + 1) "CoinsLaidModel" yX12_isAgain cX12_isAgain 7 (some FieldType.boolean) 47 [(0, aR (some v0)), (1, aI v1), (2, aI v2), (3, aI v3), (4, aI (bi v4)), (5, aI v5)] [] σ 0 0 (xM (QZ K))) (hX66 : ∀ v0 v1 v2 v3 v4 v5 v6 σ, X66 v0 v1 v2 v3 v4 v5 v6 σ → Wd l G (d + 1) "CoinsLaidModel" yX12_isAgain cX12_isAgain 7 (some FieldType.boolean) 66 [(0, aR (some v0)), (1, aI v1), (2, aI v2), (3, aI v3), (4, aI (bi v4)), (5, aI v5), (6, aI v6)] [] σ 0 0 (xM (QZ K))) (hf : F_X12_isAgain_109 l G d X2 X47 X66 v0 v1 v2 v3 v5 v6 σ K) : Wd l G (d + 1) "CoinsLaidModel" yX12_isAgain cX12_isAgain 7 (some FieldType.boolean) 109 [(0, aR (some v0)), (1, aI v1), (2, aI v2), (3, aI v3), (5, aI v5), (6, aI v6)] [] σ 0 0 (xM (QZ K)) := by
  unfold F_X12_isAgain_109 at hf
  refine r_iconst (v := 0) (by decide) dX12_isAgain_109 ?_
  exact r_sub [0, 1, 2, 3, 4, 5] rfl (b_X12_isAgain_110 hX2 hX47 hX66 hf)
def F_X12_isAgain_66 (l : Launch) (G : GG) (d : Nat) (X2 : Nat → Int32 → Int32 → Int32 → Hp → Prop) (X47 : Nat → Int32 → Int32 → Int32 → Bool → Int32 → Hp → Prop) (X66 : Nat → Int32 → Int32 → Int32 → Bool → Int32 → Int32 → Hp → Prop) (v0 : Nat) (v1 : Int32) (v2 : Int32) (v3 : Int32) (v4 : Bool) (v5 : Int32) (v6 : Int32) (σ : Hp) (K : Bool → Hp → Prop) : Prop :=
  C_X12_wideOf l G d v0 v1 v2 σ fun r2 σ1 =>
  ((r2 : Int32) ≤ (v6 : Int32) →
    X47 v0 v1 v2 v3 v4 (v5 + 1) σ1) ∧
  (¬ (r2 : Int32) ≤ (v6 : Int32) →
    (v4 = false →
      F_X12_isAgain_109 l G d X2 X47 X66 v0 v1 v2 v3 v5 v6 σ1 K) ∧
    (v4 = true →
      C_X12_hasSquare l G d v0 v1 v3 v6 v5 σ1 fun r4 σ3 =>
      C_X12_hasSquare l G d v0 v1 v2 v6 v5 σ3 fun r6 σ5 =>
      (¬ ((bi r4) : Int32) = ((bi r6) : Int32) →
        F_X12_isAgain_109 l G d X2 X47 X66 v0 v1 v2 v3 v5 v6 σ5 K) ∧
      (((bi r4) : Int32) = ((bi r6) : Int32) →
        F_X12_isAgain_110 l G d X2 X47 X66 v0 v1 v2 v3 v5 v6 true σ5 K)))
set_option maxRecDepth 100000 in
set_option maxHeartbeats 4000000 in
theorem b_X12_isAgain_66 {l : Launch} {G : GG} {d : Nat} {X2 : Nat → Int32 → Int32 → Int32 → Hp → Prop} {X47 : Nat → Int32 → Int32 → Int32 → Bool → Int32 → Hp → Prop} {X66 : Nat → Int32 → Int32 → Int32 → Bool → Int32 → Int32 → Hp → Prop} {v0 : Nat} {v1 : Int32} {v2 : Int32} {v3 : Int32} {v4 : Bool} {v5 : Int32} {v6 : Int32} {σ : Hp} {K : Bool → Hp → Prop} (hX2 : ∀ v0 v1 v2 v3 σ, X2 v0 v1 v2 v3 σ → Wd l G (d + 1) "CoinsLaidModel" yX12_isAgain cX12_isAgain 7 (some FieldType.boolean) 2 [(0, aR (some v0)), (1, aI v1), (2, aI v2), (3, aI v3)] [] σ 0 0 (xM (QZ K))) (hX47 : ∀ v0 v1 v2 v3 v4 v5 σ, X47 v0 v1 v2 v3 v4 v5 σ → Wd l G (d + 1) "CoinsLaidModel" yX12_isAgain cX12_isAgain 7 (some FieldType.boolean) 47 [(0, aR (some v0)), (1, aI v1), (2, aI v2), (3, aI v3), (4, aI (bi v4)), (5, aI v5)] [] σ 0 0 (xM (QZ K))) (hX66 : ∀ v0 v1 v2 v3 v4 v5 v6 σ, X66 v0 v1 v2 v3 v4 v5 v6 σ → Wd l G (d + 1) "CoinsLaidModel" yX12_isAgain cX12_isAgain 7 (some FieldType.boolean) 66 [(0, aR (some v0)), (1, aI v1), (2, aI v2), (3, aI v3), (4, aI (bi v4)), (5, aI v5), (6, aI v6)] [] σ 0 0 (xM (QZ K))) (hf : F_X12_isAgain_66 l G d X2 X47 X66 v0 v1 v2 v3 v4 v5 v6 σ K) : Wd l G (d + 1) "CoinsLaidModel" yX12_isAgain cX12_isAgain 7 (some FieldType.boolean) 66 [(0, aR (some v0)), (1, aI v1), (2, aI v2), (3, aI v3), (4, aI (bi v4)), (5, aI v5), (6, aI v6)] [] σ 0 0 (xM (QZ K)) := by
  unfold F_X12_isAgain_66 at hf
  refine r_iload (j := 6) rfl dX12_isAgain_66 ?_
  refine r_aload_n (j := 0) rfl rfl dX12_isAgain_68 ?_
  refine r_iload_n (j := 1) rfl rfl dX12_isAgain_69 ?_
  refine r_iload_n (j := 2) rfl rfl dX12_isAgain_70 ?_
  try unfold C_X12_wideOf at hf
  refine r_invSI (As := [aR (some v0), aI v1, aI v2]) (dz := d) (mz := 0) (sz := 0) rfl wd_7_206 wd_7_207 cf_X12_wideOf (Nat.le_refl _) (Nat.zero_le _) (Nat.zero_le _) (cat_ok (Nat.le_of_ble_eq_true rfl)) dX12_isAgain_71 hf (fun r2 σ1 hk => ?_)
  replace hf := hk
  clear hk
  refine r_icmpge (x := v6) (y := r2) (tgt := 118) (by decide) dX12_isAgain_74 (fun hc => ?_) (fun hc => ?_)
  · replace hf := hf.1 hc
    refine r_iinc (j := 5) (w := (v5 + 1)) (L' := [(5, aI (v5 + 1)), (0, aR (some v0)), (1, aI v1), (2, aI v2), (3, aI v3), (4, aI (bi v4)), (6, aI v6)]) rfl (by rfl) rfl (Nat.le_of_ble_eq_true rfl) dX12_isAgain_118 ?_
    refine r_goto (tgt := 47) (by decide) dX12_isAgain_121 ?_
    exact r_sub [1, 2, 3, 4, 5, 0] rfl (hX47 _ _ _ _ _ _ _ hf)
  · replace hf := hf.2 hc
    refine r_iload (j := 4) rfl dX12_isAgain_77 ?_
    refine r_ifeqZ (b := v4) (tgt := 109) (by decide) dX12_isAgain_79 (fun hc => ?_) (fun hc => ?_)
    · replace hf := hf.1 hc
      exact r_sub [0, 1, 2, 3, 5, 6] rfl (b_X12_isAgain_109 hX2 hX47 hX66 hf)
    · replace hf := hf.2 hc
      refine r_aload_n (j := 0) rfl rfl dX12_isAgain_82 ?_
      refine r_iload_n (j := 1) rfl rfl dX12_isAgain_83 ?_
      refine r_iload_n (j := 3) rfl rfl dX12_isAgain_84 ?_
      refine r_iload (j := 6) rfl dX12_isAgain_85 ?_
      refine r_iload (j := 5) rfl dX12_isAgain_87 ?_
      try unfold C_X12_hasSquare at hf
      refine r_invSZ (As := [aR (some v0), aI v1, aI v3, aI v6, aI v5]) (dz := d) (mz := 0) (sz := 0) rfl wd_7_212 wd_7_213 cf_X12_hasSquare (Nat.le_refl _) (Nat.zero_le _) (Nat.zero_le _) (cat_ok (Nat.le_of_ble_eq_true rfl)) dX12_isAgain_89 hf (fun r4 σ3 hk => ?_)
      replace hf := hk
      clear hk
      refine r_aload_n (j := 0) rfl rfl dX12_isAgain_92 ?_
      refine r_iload_n (j := 1) rfl rfl dX12_isAgain_93 ?_
      refine r_iload_n (j := 2) rfl rfl dX12_isAgain_94 ?_
      refine r_iload (j := 6) rfl dX12_isAgain_95 ?_
      refine r_iload (j := 5) rfl dX12_isAgain_97 ?_
      try unfold C_X12_hasSquare at hf
      refine r_invSZ (As := [aR (some v0), aI v1, aI v2, aI v6, aI v5]) (dz := d) (mz := 0) (sz := 0) rfl wd_7_212 wd_7_213 cf_X12_hasSquare (Nat.le_refl _) (Nat.zero_le _) (Nat.zero_le _) (cat_ok (Nat.le_of_ble_eq_true rfl)) dX12_isAgain_99 hf (fun r6 σ5 hk => ?_)
      replace hf := hk
      clear hk
      refine r_icmpne (x := (bi r4)) (y := (bi r6)) (tgt := 109) (by decide) dX12_isAgain_102 (fun hc => ?_) (fun hc => ?_)
      · replace hf := hf.1 hc
        exact r_sub [0, 1, 2, 3, 5, 6] rfl (b_X12_isAgain_109 hX2 hX47 hX66 hf)
      · replace hf := hf.2 hc
        refine r_iconst (v := 1) (by decide) dX12_isAgain_105 ?_
        refine r_goto (tgt := 110) (by decide) dX12_isAgain_106 ?_
        exact r_sub [0, 1, 2, 3, 5, 6] rfl (b_X12_isAgain_110 hX2 hX47 hX66 hf)
def Z_X12_isAgain_66 (l : Launch) (G : GG) (d : Nat) (X2 : Nat → Int32 → Int32 → Int32 → Hp → Prop) (X47 : Nat → Int32 → Int32 → Int32 → Bool → Int32 → Hp → Prop) (K : Bool → Hp → Prop) : Nat → Nat → Int32 → Int32 → Int32 → Bool → Int32 → Int32 → Hp → Prop
  | 0 => fun _ _ _ _ _ _ _ _ => False
  | n + 1 => fun v0 v1 v2 v3 v4 v5 v6 σ => F_X12_isAgain_66 l G d X2 X47 (Z_X12_isAgain_66 l G d X2 X47 K n) v0 v1 v2 v3 v4 v5 v6 σ K
theorem z_X12_isAgain_66 {l : Launch} {G : GG} {d : Nat} {X2 : Nat → Int32 → Int32 → Int32 → Hp → Prop} {X47 : Nat → Int32 → Int32 → Int32 → Bool → Int32 → Hp → Prop} {K : Bool → Hp → Prop} (hX2 : ∀ v0 v1 v2 v3 σ, X2 v0 v1 v2 v3 σ → Wd l G (d + 1) "CoinsLaidModel" yX12_isAgain cX12_isAgain 7 (some FieldType.boolean) 2 [(0, aR (some v0)), (1, aI v1), (2, aI v2), (3, aI v3)] [] σ 0 0 (xM (QZ K))) (hX47 : ∀ v0 v1 v2 v3 v4 v5 σ, X47 v0 v1 v2 v3 v4 v5 σ → Wd l G (d + 1) "CoinsLaidModel" yX12_isAgain cX12_isAgain 7 (some FieldType.boolean) 47 [(0, aR (some v0)), (1, aI v1), (2, aI v2), (3, aI v3), (4, aI (bi v4)), (5, aI v5)] [] σ 0 0 (xM (QZ K))) : ∀ (n : Nat) v0 v1 v2 v3 v4 v5 v6 σ, Z_X12_isAgain_66 l G d X2 X47 K n v0 v1 v2 v3 v4 v5 v6 σ → Wd l G (d + 1) "CoinsLaidModel" yX12_isAgain cX12_isAgain 7 (some FieldType.boolean) 66 [(0, aR (some v0)), (1, aI v1), (2, aI v2), (3, aI v3), (4, aI (bi v4)), (5, aI v5), (6, aI v6)] [] σ 0 0 (xM (QZ K)) := by
  intro n
  induction n with
  | zero => intro v0 v1 v2 v3 v4 v5 v6 σ hf; exact hf.elim
  | succ n ih => intro v0 v1 v2 v3 v4 v5 v6 σ hf; exact b_X12_isAgain_66 hX2 hX47 ih hf
def F_X12_isAgain_124 (l : Launch) (G : GG) (d : Nat) (X2 : Nat → Int32 → Int32 → Int32 → Hp → Prop) (v0 : Nat) (v1 : Int32) (v2 : Int32) (v3 : Int32) (v4 : Bool) (σ : Hp) (K : Bool → Hp → Prop) : Prop :=
  (v4 = false →
    X2 v0 v1 v2 (v3 + 1) σ) ∧
  (v4 = true →
    K true σ)
set_option maxRecDepth 100000 in
set_option maxHeartbeats 4000000 in
theorem b_X12_isAgain_124 {l : Launch} {G : GG} {d : Nat} {X2 : Nat → Int32 → Int32 → Int32 → Hp → Prop} {v0 : Nat} {v1 : Int32} {v2 : Int32} {v3 : Int32} {v4 : Bool} {σ : Hp} {K : Bool → Hp → Prop} (hX2 : ∀ v0 v1 v2 v3 σ, X2 v0 v1 v2 v3 σ → Wd l G (d + 1) "CoinsLaidModel" yX12_isAgain cX12_isAgain 7 (some FieldType.boolean) 2 [(0, aR (some v0)), (1, aI v1), (2, aI v2), (3, aI v3)] [] σ 0 0 (xM (QZ K))) (hf : F_X12_isAgain_124 l G d X2 v0 v1 v2 v3 v4 σ K) : Wd l G (d + 1) "CoinsLaidModel" yX12_isAgain cX12_isAgain 7 (some FieldType.boolean) 124 [(0, aR (some v0)), (1, aI v1), (2, aI v2), (3, aI v3), (4, aI (bi v4))] [] σ 0 0 (xM (QZ K)) := by
  unfold F_X12_isAgain_124 at hf
  refine r_iload (j := 4) rfl dX12_isAgain_124 ?_
  refine r_ifeqZ (b := v4) (tgt := 131) (by decide) dX12_isAgain_126 (fun hc => ?_) (fun hc => ?_)
  · replace hf := hf.1 hc
    refine r_iinc (j := 3) (w := (v3 + 1)) (L' := [(3, aI (v3 + 1)), (0, aR (some v0)), (1, aI v1), (2, aI v2), (4, aI (bi v4))]) rfl (by rfl) rfl (Nat.le_of_ble_eq_true rfl) dX12_isAgain_131 ?_
    refine r_goto (tgt := 2) (by decide) dX12_isAgain_134 ?_
    exact r_sub [1, 2, 3, 0] rfl (hX2 _ _ _ _ _ hf)
  · replace hf := hf.2 hc
    refine r_iconst (v := 1) (by decide) dX12_isAgain_129 ?_
    exact r_zreturn (b := true) rfl dX12_isAgain_130 rfl ⟨_, rfl, hf⟩
def F_X12_isAgain_47 (l : Launch) (G : GG) (d : Nat) (X2 : Nat → Int32 → Int32 → Int32 → Hp → Prop) (X47 : Nat → Int32 → Int32 → Int32 → Bool → Int32 → Hp → Prop) (v0 : Nat) (v1 : Int32) (v2 : Int32) (v3 : Int32) (v4 : Bool) (v5 : Int32) (σ : Hp) (K : Bool → Hp → Prop) : Prop :=
  C_X12_highOf l G d v0 v1 v2 σ fun r8 σ7 =>
  ((r8 : Int32) ≤ (v5 : Int32) →
    F_X12_isAgain_124 l G d X2 v0 v1 v2 v3 v4 σ7 K) ∧
  (¬ (r8 : Int32) ≤ (v5 : Int32) →
    (v4 = false →
      F_X12_isAgain_124 l G d X2 v0 v1 v2 v3 v4 σ7 K) ∧
    (v4 = true →
      ∃ n, Z_X12_isAgain_66 l G d X2 X47 K n v0 v1 v2 v3 v4 v5 0 σ7))
set_option maxRecDepth 100000 in
set_option maxHeartbeats 4000000 in
theorem b_X12_isAgain_47 {l : Launch} {G : GG} {d : Nat} {X2 : Nat → Int32 → Int32 → Int32 → Hp → Prop} {X47 : Nat → Int32 → Int32 → Int32 → Bool → Int32 → Hp → Prop} {v0 : Nat} {v1 : Int32} {v2 : Int32} {v3 : Int32} {v4 : Bool} {v5 : Int32} {σ : Hp} {K : Bool → Hp → Prop} (hX2 : ∀ v0 v1 v2 v3 σ, X2 v0 v1 v2 v3 σ → Wd l G (d + 1) "CoinsLaidModel" yX12_isAgain cX12_isAgain 7 (some FieldType.boolean) 2 [(0, aR (some v0)), (1, aI v1), (2, aI v2), (3, aI v3)] [] σ 0 0 (xM (QZ K))) (hX47 : ∀ v0 v1 v2 v3 v4 v5 σ, X47 v0 v1 v2 v3 v4 v5 σ → Wd l G (d + 1) "CoinsLaidModel" yX12_isAgain cX12_isAgain 7 (some FieldType.boolean) 47 [(0, aR (some v0)), (1, aI v1), (2, aI v2), (3, aI v3), (4, aI (bi v4)), (5, aI v5)] [] σ 0 0 (xM (QZ K))) (hf : F_X12_isAgain_47 l G d X2 X47 v0 v1 v2 v3 v4 v5 σ K) : Wd l G (d + 1) "CoinsLaidModel" yX12_isAgain cX12_isAgain 7 (some FieldType.boolean) 47 [(0, aR (some v0)), (1, aI v1), (2, aI v2), (3, aI v3), (4, aI (bi v4)), (5, aI v5)] [] σ 0 0 (xM (QZ K)) := by
  unfold F_X12_isAgain_47 at hf
  refine r_iload (j := 5) rfl dX12_isAgain_47 ?_
  refine r_aload_n (j := 0) rfl rfl dX12_isAgain_49 ?_
  refine r_iload_n (j := 1) rfl rfl dX12_isAgain_50 ?_
  refine r_iload_n (j := 2) rfl rfl dX12_isAgain_51 ?_
  try unfold C_X12_highOf at hf
  refine r_invSI (As := [aR (some v0), aI v1, aI v2]) (dz := d) (mz := 0) (sz := 0) rfl wd_7_209 wd_7_210 cf_X12_highOf (Nat.le_refl _) (Nat.zero_le _) (Nat.zero_le _) (cat_ok (Nat.le_of_ble_eq_true rfl)) dX12_isAgain_52 hf (fun r8 σ7 hk => ?_)
  replace hf := hk
  clear hk
  refine r_icmpge (x := v5) (y := r8) (tgt := 124) (by decide) dX12_isAgain_55 (fun hc => ?_) (fun hc => ?_)
  · replace hf := hf.1 hc
    exact r_sub [0, 1, 2, 3, 4] rfl (b_X12_isAgain_124 hX2 hf)
  · replace hf := hf.2 hc
    refine r_iload (j := 4) rfl dX12_isAgain_58 ?_
    refine r_ifeqZ (b := v4) (tgt := 124) (by decide) dX12_isAgain_60 (fun hc => ?_) (fun hc => ?_)
    · replace hf := hf.1 hc
      exact r_sub [0, 1, 2, 3, 4] rfl (b_X12_isAgain_124 hX2 hf)
    · replace hf := hf.2 hc
      refine r_iconst (v := 0) (by decide) dX12_isAgain_63 ?_
      refine r_istore (L' := [(6, aI 0), (0, aR (some v0)), (1, aI v1), (2, aI v2), (3, aI v3), (4, aI (bi v4)), (5, aI v5)]) rfl (Nat.le_of_ble_eq_true rfl) dX12_isAgain_64 ?_
      obtain ⟨n, hf⟩ := hf
      exact r_sub [1, 2, 3, 4, 5, 6, 0] rfl (z_X12_isAgain_66 hX2 hX47 n _ _ _ _ _ _ _ _ hf)
def Z_X12_isAgain_47 (l : Launch) (G : GG) (d : Nat) (X2 : Nat → Int32 → Int32 → Int32 → Hp → Prop) (K : Bool → Hp → Prop) : Nat → Nat → Int32 → Int32 → Int32 → Bool → Int32 → Hp → Prop
  | 0 => fun _ _ _ _ _ _ _ => False
  | n + 1 => fun v0 v1 v2 v3 v4 v5 σ => F_X12_isAgain_47 l G d X2 (Z_X12_isAgain_47 l G d X2 K n) v0 v1 v2 v3 v4 v5 σ K
theorem z_X12_isAgain_47 {l : Launch} {G : GG} {d : Nat} {X2 : Nat → Int32 → Int32 → Int32 → Hp → Prop} {K : Bool → Hp → Prop} (hX2 : ∀ v0 v1 v2 v3 σ, X2 v0 v1 v2 v3 σ → Wd l G (d + 1) "CoinsLaidModel" yX12_isAgain cX12_isAgain 7 (some FieldType.boolean) 2 [(0, aR (some v0)), (1, aI v1), (2, aI v2), (3, aI v3)] [] σ 0 0 (xM (QZ K))) : ∀ (n : Nat) v0 v1 v2 v3 v4 v5 σ, Z_X12_isAgain_47 l G d X2 K n v0 v1 v2 v3 v4 v5 σ → Wd l G (d + 1) "CoinsLaidModel" yX12_isAgain cX12_isAgain 7 (some FieldType.boolean) 47 [(0, aR (some v0)), (1, aI v1), (2, aI v2), (3, aI v3), (4, aI (bi v4)), (5, aI v5)] [] σ 0 0 (xM (QZ K)) := by
  intro n
  induction n with
  | zero => intro v0 v1 v2 v3 v4 v5 σ hf; exact hf.elim
  | succ n ih => intro v0 v1 v2 v3 v4 v5 σ hf; exact b_X12_isAgain_47 hX2 ih hf
def F_X12_isAgain_42 (l : Launch) (G : GG) (d : Nat) (X2 : Nat → Int32 → Int32 → Int32 → Hp → Prop) (v0 : Nat) (v1 : Int32) (v2 : Int32) (v3 : Int32) (s0 : Bool) (σ : Hp) (K : Bool → Hp → Prop) : Prop :=
  ∃ n, Z_X12_isAgain_47 l G d X2 K n v0 v1 v2 v3 s0 0 σ
set_option maxRecDepth 100000 in
set_option maxHeartbeats 4000000 in
theorem b_X12_isAgain_42 {l : Launch} {G : GG} {d : Nat} {X2 : Nat → Int32 → Int32 → Int32 → Hp → Prop} {v0 : Nat} {v1 : Int32} {v2 : Int32} {v3 : Int32} {s0 : Bool} {σ : Hp} {K : Bool → Hp → Prop} (hX2 : ∀ v0 v1 v2 v3 σ, X2 v0 v1 v2 v3 σ → Wd l G (d + 1) "CoinsLaidModel" yX12_isAgain cX12_isAgain 7 (some FieldType.boolean) 2 [(0, aR (some v0)), (1, aI v1), (2, aI v2), (3, aI v3)] [] σ 0 0 (xM (QZ K))) (hf : F_X12_isAgain_42 l G d X2 v0 v1 v2 v3 s0 σ K) : Wd l G (d + 1) "CoinsLaidModel" yX12_isAgain cX12_isAgain 7 (some FieldType.boolean) 42 [(0, aR (some v0)), (1, aI v1), (2, aI v2), (3, aI v3)] [aI (bi s0)] σ 0 0 (xM (QZ K)) := by
  unfold F_X12_isAgain_42 at hf
  refine r_istore (L' := [(4, aI (bi s0)), (0, aR (some v0)), (1, aI v1), (2, aI v2), (3, aI v3)]) rfl (Nat.le_of_ble_eq_true rfl) dX12_isAgain_42 ?_
  refine r_iconst (v := 0) (by decide) dX12_isAgain_44 ?_
  refine r_istore (L' := [(5, aI 0), (4, aI (bi s0)), (0, aR (some v0)), (1, aI v1), (2, aI v2), (3, aI v3)]) rfl (Nat.le_of_ble_eq_true rfl) dX12_isAgain_45 ?_
  obtain ⟨n, hf⟩ := hf
  exact r_sub [2, 3, 4, 5, 1, 0] rfl (z_X12_isAgain_47 hX2 n _ _ _ _ _ _ _ hf)
def F_X12_isAgain_41 (l : Launch) (G : GG) (d : Nat) (X2 : Nat → Int32 → Int32 → Int32 → Hp → Prop) (v0 : Nat) (v1 : Int32) (v2 : Int32) (v3 : Int32) (σ : Hp) (K : Bool → Hp → Prop) : Prop :=
  F_X12_isAgain_42 l G d X2 v0 v1 v2 v3 false σ K
set_option maxRecDepth 100000 in
set_option maxHeartbeats 4000000 in
theorem b_X12_isAgain_41 {l : Launch} {G : GG} {d : Nat} {X2 : Nat → Int32 → Int32 → Int32 → Hp → Prop} {v0 : Nat} {v1 : Int32} {v2 : Int32} {v3 : Int32} {σ : Hp} {K : Bool → Hp → Prop} (hX2 : ∀ v0 v1 v2 v3 σ, X2 v0 v1 v2 v3 σ → Wd l G (d + 1) "CoinsLaidModel" yX12_isAgain cX12_isAgain 7 (some FieldType.boolean) 2 [(0, aR (some v0)), (1, aI v1), (2, aI v2), (3, aI v3)] [] σ 0 0 (xM (QZ K))) (hf : F_X12_isAgain_41 l G d X2 v0 v1 v2 v3 σ K) : Wd l G (d + 1) "CoinsLaidModel" yX12_isAgain cX12_isAgain 7 (some FieldType.boolean) 41 [(0, aR (some v0)), (1, aI v1), (2, aI v2), (3, aI v3)] [] σ 0 0 (xM (QZ K)) := by
  unfold F_X12_isAgain_41 at hf
  refine r_iconst (v := 0) (by decide) dX12_isAgain_41 ?_
  exact r_sub [0, 1, 2, 3] rfl (b_X12_isAgain_42 hX2 hf)
def F_X12_isAgain_2 (l : Launch) (G : GG) (d : Nat) (X2 : Nat → Int32 → Int32 → Int32 → Hp → Prop) (v0 : Nat) (v1 : Int32) (v2 : Int32) (v3 : Int32) (σ : Hp) (K : Bool → Hp → Prop) : Prop :=
  ((v2 : Int32) ≤ (v3 : Int32) →
    K false σ) ∧
  (¬ (v2 : Int32) ≤ (v3 : Int32) →
    C_X12_wideOf l G d v0 v1 v3 σ fun r10 σ9 =>
    C_X12_wideOf l G d v0 v1 v2 σ9 fun r12 σ11 =>
    (¬ (r10 : Int32) = (r12 : Int32) →
      F_X12_isAgain_41 l G d X2 v0 v1 v2 v3 σ11 K) ∧
    ((r10 : Int32) = (r12 : Int32) →
      C_X12_highOf l G d v0 v1 v3 σ11 fun r14 σ13 =>
      C_X12_highOf l G d v0 v1 v2 σ13 fun r16 σ15 =>
      (¬ (r14 : Int32) = (r16 : Int32) →
        F_X12_isAgain_41 l G d X2 v0 v1 v2 v3 σ15 K) ∧
      ((r14 : Int32) = (r16 : Int32) →
        F_X12_isAgain_42 l G d X2 v0 v1 v2 v3 true σ15 K)))
set_option maxRecDepth 100000 in
set_option maxHeartbeats 4000000 in
theorem b_X12_isAgain_2 {l : Launch} {G : GG} {d : Nat} {X2 : Nat → Int32 → Int32 → Int32 → Hp → Prop} {v0 : Nat} {v1 : Int32} {v2 : Int32} {v3 : Int32} {σ : Hp} {K : Bool → Hp → Prop} (hX2 : ∀ v0 v1 v2 v3 σ, X2 v0 v1 v2 v3 σ → Wd l G (d + 1) "CoinsLaidModel" yX12_isAgain cX12_isAgain 7 (some FieldType.boolean) 2 [(0, aR (some v0)), (1, aI v1), (2, aI v2), (3, aI v3)] [] σ 0 0 (xM (QZ K))) (hf : F_X12_isAgain_2 l G d X2 v0 v1 v2 v3 σ K) : Wd l G (d + 1) "CoinsLaidModel" yX12_isAgain cX12_isAgain 7 (some FieldType.boolean) 2 [(0, aR (some v0)), (1, aI v1), (2, aI v2), (3, aI v3)] [] σ 0 0 (xM (QZ K)) := by
  unfold F_X12_isAgain_2 at hf
  refine r_iload_n (j := 3) rfl rfl dX12_isAgain_2 ?_
  refine r_iload_n (j := 2) rfl rfl dX12_isAgain_3 ?_
  refine r_icmpge (x := v3) (y := v2) (tgt := 137) (by decide) dX12_isAgain_4 (fun hc => ?_) (fun hc => ?_)
  · replace hf := hf.1 hc
    refine r_iconst (v := 0) (by decide) dX12_isAgain_137 ?_
    exact r_zreturn (b := false) rfl dX12_isAgain_138 rfl ⟨_, rfl, hf⟩
  · replace hf := hf.2 hc
    refine r_aload_n (j := 0) rfl rfl dX12_isAgain_7 ?_
    refine r_iload_n (j := 1) rfl rfl dX12_isAgain_8 ?_
    refine r_iload_n (j := 3) rfl rfl dX12_isAgain_9 ?_
    try unfold C_X12_wideOf at hf
    refine r_invSI (As := [aR (some v0), aI v1, aI v3]) (dz := d) (mz := 0) (sz := 0) rfl wd_7_206 wd_7_207 cf_X12_wideOf (Nat.le_refl _) (Nat.zero_le _) (Nat.zero_le _) (cat_ok (Nat.le_of_ble_eq_true rfl)) dX12_isAgain_10 hf (fun r10 σ9 hk => ?_)
    replace hf := hk
    clear hk
    refine r_aload_n (j := 0) rfl rfl dX12_isAgain_13 ?_
    refine r_iload_n (j := 1) rfl rfl dX12_isAgain_14 ?_
    refine r_iload_n (j := 2) rfl rfl dX12_isAgain_15 ?_
    try unfold C_X12_wideOf at hf
    refine r_invSI (As := [aR (some v0), aI v1, aI v2]) (dz := d) (mz := 0) (sz := 0) rfl wd_7_206 wd_7_207 cf_X12_wideOf (Nat.le_refl _) (Nat.zero_le _) (Nat.zero_le _) (cat_ok (Nat.le_of_ble_eq_true rfl)) dX12_isAgain_16 hf (fun r12 σ11 hk => ?_)
    replace hf := hk
    clear hk
    refine r_icmpne (x := r10) (y := r12) (tgt := 41) (by decide) dX12_isAgain_19 (fun hc => ?_) (fun hc => ?_)
    · replace hf := hf.1 hc
      exact r_sub [0, 1, 2, 3] rfl (b_X12_isAgain_41 hX2 hf)
    · replace hf := hf.2 hc
      refine r_aload_n (j := 0) rfl rfl dX12_isAgain_22 ?_
      refine r_iload_n (j := 1) rfl rfl dX12_isAgain_23 ?_
      refine r_iload_n (j := 3) rfl rfl dX12_isAgain_24 ?_
      try unfold C_X12_highOf at hf
      refine r_invSI (As := [aR (some v0), aI v1, aI v3]) (dz := d) (mz := 0) (sz := 0) rfl wd_7_209 wd_7_210 cf_X12_highOf (Nat.le_refl _) (Nat.zero_le _) (Nat.zero_le _) (cat_ok (Nat.le_of_ble_eq_true rfl)) dX12_isAgain_25 hf (fun r14 σ13 hk => ?_)
      replace hf := hk
      clear hk
      refine r_aload_n (j := 0) rfl rfl dX12_isAgain_28 ?_
      refine r_iload_n (j := 1) rfl rfl dX12_isAgain_29 ?_
      refine r_iload_n (j := 2) rfl rfl dX12_isAgain_30 ?_
      try unfold C_X12_highOf at hf
      refine r_invSI (As := [aR (some v0), aI v1, aI v2]) (dz := d) (mz := 0) (sz := 0) rfl wd_7_209 wd_7_210 cf_X12_highOf (Nat.le_refl _) (Nat.zero_le _) (Nat.zero_le _) (cat_ok (Nat.le_of_ble_eq_true rfl)) dX12_isAgain_31 hf (fun r16 σ15 hk => ?_)
      replace hf := hk
      clear hk
      refine r_icmpne (x := r14) (y := r16) (tgt := 41) (by decide) dX12_isAgain_34 (fun hc => ?_) (fun hc => ?_)
      · replace hf := hf.1 hc
        exact r_sub [0, 1, 2, 3] rfl (b_X12_isAgain_41 hX2 hf)
      · replace hf := hf.2 hc
        refine r_iconst (v := 1) (by decide) dX12_isAgain_37 ?_
        refine r_goto (tgt := 42) (by decide) dX12_isAgain_38 ?_
        exact r_sub [0, 1, 2, 3] rfl (b_X12_isAgain_42 hX2 hf)
def Z_X12_isAgain_2 (l : Launch) (G : GG) (d : Nat) (K : Bool → Hp → Prop) : Nat → Nat → Int32 → Int32 → Int32 → Hp → Prop
  | 0 => fun _ _ _ _ _ => False
  | n + 1 => fun v0 v1 v2 v3 σ => F_X12_isAgain_2 l G d (Z_X12_isAgain_2 l G d K n) v0 v1 v2 v3 σ K
theorem z_X12_isAgain_2 {l : Launch} {G : GG} {d : Nat} {K : Bool → Hp → Prop} : ∀ (n : Nat) v0 v1 v2 v3 σ, Z_X12_isAgain_2 l G d K n v0 v1 v2 v3 σ → Wd l G (d + 1) "CoinsLaidModel" yX12_isAgain cX12_isAgain 7 (some FieldType.boolean) 2 [(0, aR (some v0)), (1, aI v1), (2, aI v2), (3, aI v3)] [] σ 0 0 (xM (QZ K)) := by
  intro n
  induction n with
  | zero => intro v0 v1 v2 v3 σ hf; exact hf.elim
  | succ n ih => intro v0 v1 v2 v3 σ hf; exact b_X12_isAgain_2 ih hf
def F_X12_isAgain (l : Launch) (G : GG) (d : Nat) (v0 : Nat) (v1 : Int32) (v2 : Int32) (σ : Hp) (K : Bool → Hp → Prop) : Prop :=
  ∃ n, Z_X12_isAgain_2 l G d K n v0 v1 v2 0 σ
set_option maxRecDepth 100000 in
set_option maxHeartbeats 4000000 in
theorem b_X12_isAgain_0 {l : Launch} {G : GG} {d : Nat} {v0 : Nat} {v1 : Int32} {v2 : Int32} {σ : Hp} {K : Bool → Hp → Prop} (hf : F_X12_isAgain l G d v0 v1 v2 σ K) : Wd l G (d + 1) "CoinsLaidModel" yX12_isAgain cX12_isAgain 7 (some FieldType.boolean) 0 [(0, aR (some v0)), (1, aI v1), (2, aI v2)] [] σ 0 0 (xM (QZ K)) := by
  unfold F_X12_isAgain at hf
  refine r_iconst (v := 0) (by decide) dX12_isAgain_0 ?_
  refine r_istore_n (L' := [(3, aI 0), (0, aR (some v0)), (1, aI v1), (2, aI v2)]) rfl rfl (Nat.le_of_ble_eq_true rfl) dX12_isAgain_1 ?_
  obtain ⟨n, hf⟩ := hf
  exact r_sub [1, 2, 3, 0] rfl (z_X12_isAgain_2 n _ _ _ _ _ hf)
theorem m_X12_isAgain {l : Launch} {G : GG} {d : Nat} {v0 : Nat} {v1 : Int32} {v2 : Int32} {σ : Hp} {K : Bool → Hp → Prop} (hf : F_X12_isAgain l G d v0 v1 v2 σ K) : C_X12_isAgain l G (d + 1) v0 v1 v2 σ K := Sp.of (by decide) (Nat.le_of_ble_eq_true rfl) (b_X12_isAgain_0 hf) rfl
def F_X12_layLays_97 (l : Launch) (G : GG) (d : Nat) (X7 : Nat → Nat → Int32 → Hp → Prop) (X16 : Nat → Nat → Int32 → Int32 → Hp → Prop) (X26 : Nat → Nat → Int32 → Int32 → Int32 → Hp → Prop) (X40 : Nat → Nat → Int32 → Int32 → Int32 → Int32 → Hp → Prop) (X54 : Nat → Nat → Int32 → Int32 → Int32 → Int32 → Int32 → Hp → Prop) (v0 : Nat) (v1 : Nat) (v2 : Int32) (v3 : Int32) (v4 : Int32) (v5 : Int32) (v6 : Int32) (σ : Hp) (K : Hp → Prop) : Prop :=
  X54 v0 v1 v2 v3 v4 v5 (v6 + 1) σ
set_option maxRecDepth 100000 in
set_option maxHeartbeats 4000000 in
theorem b_X12_layLays_97 {l : Launch} {G : GG} {d : Nat} {X7 : Nat → Nat → Int32 → Hp → Prop} {X16 : Nat → Nat → Int32 → Int32 → Hp → Prop} {X26 : Nat → Nat → Int32 → Int32 → Int32 → Hp → Prop} {X40 : Nat → Nat → Int32 → Int32 → Int32 → Int32 → Hp → Prop} {X54 : Nat → Nat → Int32 → Int32 → Int32 → Int32 → Int32 → Hp → Prop} {v0 : Nat} {v1 : Nat} {v2 : Int32} {v3 : Int32} {v4 : Int32} {v5 : Int32} {v6 : Int32} {σ : Hp} {K : Hp → Prop} (hX7 : ∀ v0 v1 v2 σ, X7 v0 v1 v2 σ → Wd l G (d + 1) "CoinsLaidModel" yX12_layLays cX12_layLays 7 none 7 [(0, aR (some v0)), (1, aR (some v1)), (2, aI v2)] [] σ 0 0 (xM (QV K))) (hX16 : ∀ v0 v1 v2 v3 σ, X16 v0 v1 v2 v3 σ → Wd l G (d + 1) "CoinsLaidModel" yX12_layLays cX12_layLays 7 none 16 [(0, aR (some v0)), (1, aR (some v1)), (2, aI v2), (3, aI v3)] [] σ 0 0 (xM (QV K))) (hX26 : ∀ v0 v1 v2 v3 v4 σ, X26 v0 v1 v2 v3 v4 σ → Wd l G (d + 1) "CoinsLaidModel" yX12_layLays cX12_layLays 7 none 26 [(0, aR (some v0)), (1, aR (some v1)), (2, aI v2), (3, aI v3), (4, aI v4)] [] σ 0 0 (xM (QV K))) (hX40 : ∀ v0 v1 v2 v3 v4 v5 σ, X40 v0 v1 v2 v3 v4 v5 σ → Wd l G (d + 1) "CoinsLaidModel" yX12_layLays cX12_layLays 7 none 40 [(0, aR (some v0)), (1, aR (some v1)), (2, aI v2), (3, aI v3), (4, aI v4), (5, aI v5)] [] σ 0 0 (xM (QV K))) (hX54 : ∀ v0 v1 v2 v3 v4 v5 v6 σ, X54 v0 v1 v2 v3 v4 v5 v6 σ → Wd l G (d + 1) "CoinsLaidModel" yX12_layLays cX12_layLays 7 none 54 [(0, aR (some v0)), (1, aR (some v1)), (2, aI v2), (3, aI v3), (4, aI v4), (5, aI v5), (6, aI v6)] [] σ 0 0 (xM (QV K))) (hf : F_X12_layLays_97 l G d X7 X16 X26 X40 X54 v0 v1 v2 v3 v4 v5 v6 σ K) : Wd l G (d + 1) "CoinsLaidModel" yX12_layLays cX12_layLays 7 none 97 [(0, aR (some v0)), (1, aR (some v1)), (2, aI v2), (3, aI v3), (4, aI v4), (5, aI v5), (6, aI v6)] [] σ 0 0 (xM (QV K)) := by
  unfold F_X12_layLays_97 at hf
  refine r_iinc (j := 6) (w := (v6 + 1)) (L' := [(6, aI (v6 + 1)), (0, aR (some v0)), (1, aR (some v1)), (2, aI v2), (3, aI v3), (4, aI v4), (5, aI v5)]) rfl (by rfl) rfl (Nat.le_of_ble_eq_true rfl) dX12_layLays_97 ?_
  refine r_goto (tgt := 54) (by decide) dX12_layLays_100 ?_
  exact r_sub [1, 2, 3, 4, 5, 6, 0] rfl (hX54 _ _ _ _ _ _ _ _ hf)
def F_X12_layLays_71 (l : Launch) (G : GG) (d : Nat) (X7 : Nat → Nat → Int32 → Hp → Prop) (X16 : Nat → Nat → Int32 → Int32 → Hp → Prop) (X26 : Nat → Nat → Int32 → Int32 → Int32 → Hp → Prop) (X40 : Nat → Nat → Int32 → Int32 → Int32 → Int32 → Hp → Prop) (X54 : Nat → Nat → Int32 → Int32 → Int32 → Int32 → Int32 → Hp → Prop) (v0 : Nat) (v1 : Nat) (v2 : Int32) (v3 : Int32) (v4 : Int32) (v5 : Int32) (v6 : Int32) (s0 : Int32) (s1 : Int32) (σ : Hp) (K : Hp → Prop) : Prop :=
  ((s1 : Int32) ≤ (s0 : Int32) →
    X40 v0 v1 v2 v3 v4 (v5 + 1) σ) ∧
  (¬ (s1 : Int32) ≤ (s0 : Int32) →
    C_X12_isAgain l G d v1 v2 v6 σ fun r2 σ1 =>
    (r2 = true →
      F_X12_layLays_97 l G d X7 X16 X26 X40 X54 v0 v1 v2 v3 v4 v5 v6 σ1 K) ∧
    (r2 = false →
      C_X12_layOne l G d v0 v1 v2 v3 v5 v4 v6 σ1 fun σ3 =>
      F_X12_layLays_97 l G d X7 X16 X26 X40 X54 v0 v1 v2 v3 v4 v5 v6 σ3 K))
set_option maxRecDepth 100000 in
set_option maxHeartbeats 4000000 in
theorem b_X12_layLays_71 {l : Launch} {G : GG} {d : Nat} {X7 : Nat → Nat → Int32 → Hp → Prop} {X16 : Nat → Nat → Int32 → Int32 → Hp → Prop} {X26 : Nat → Nat → Int32 → Int32 → Int32 → Hp → Prop} {X40 : Nat → Nat → Int32 → Int32 → Int32 → Int32 → Hp → Prop} {X54 : Nat → Nat → Int32 → Int32 → Int32 → Int32 → Int32 → Hp → Prop} {v0 : Nat} {v1 : Nat} {v2 : Int32} {v3 : Int32} {v4 : Int32} {v5 : Int32} {v6 : Int32} {s0 : Int32} {s1 : Int32} {σ : Hp} {K : Hp → Prop} (hX7 : ∀ v0 v1 v2 σ, X7 v0 v1 v2 σ → Wd l G (d + 1) "CoinsLaidModel" yX12_layLays cX12_layLays 7 none 7 [(0, aR (some v0)), (1, aR (some v1)), (2, aI v2)] [] σ 0 0 (xM (QV K))) (hX16 : ∀ v0 v1 v2 v3 σ, X16 v0 v1 v2 v3 σ → Wd l G (d + 1) "CoinsLaidModel" yX12_layLays cX12_layLays 7 none 16 [(0, aR (some v0)), (1, aR (some v1)), (2, aI v2), (3, aI v3)] [] σ 0 0 (xM (QV K))) (hX26 : ∀ v0 v1 v2 v3 v4 σ, X26 v0 v1 v2 v3 v4 σ → Wd l G (d + 1) "CoinsLaidModel" yX12_layLays cX12_layLays 7 none 26 [(0, aR (some v0)), (1, aR (some v1)), (2, aI v2), (3, aI v3), (4, aI v4)] [] σ 0 0 (xM (QV K))) (hX40 : ∀ v0 v1 v2 v3 v4 v5 σ, X40 v0 v1 v2 v3 v4 v5 σ → Wd l G (d + 1) "CoinsLaidModel" yX12_layLays cX12_layLays 7 none 40 [(0, aR (some v0)), (1, aR (some v1)), (2, aI v2), (3, aI v3), (4, aI v4), (5, aI v5)] [] σ 0 0 (xM (QV K))) (hX54 : ∀ v0 v1 v2 v3 v4 v5 v6 σ, X54 v0 v1 v2 v3 v4 v5 v6 σ → Wd l G (d + 1) "CoinsLaidModel" yX12_layLays cX12_layLays 7 none 54 [(0, aR (some v0)), (1, aR (some v1)), (2, aI v2), (3, aI v3), (4, aI v4), (5, aI v5), (6, aI v6)] [] σ 0 0 (xM (QV K))) (hf : F_X12_layLays_71 l G d X7 X16 X26 X40 X54 v0 v1 v2 v3 v4 v5 v6 s0 s1 σ K) : Wd l G (d + 1) "CoinsLaidModel" yX12_layLays cX12_layLays 7 none 71 [(0, aR (some v0)), (1, aR (some v1)), (2, aI v2), (3, aI v3), (4, aI v4), (5, aI v5), (6, aI v6)] [aI s1, aI s0] σ 0 0 (xM (QV K)) := by
  unfold F_X12_layLays_71 at hf
  refine r_icmpge (x := s0) (y := s1) (tgt := 103) (by decide) dX12_layLays_71 (fun hc => ?_) (fun hc => ?_)
  · replace hf := hf.1 hc
    refine r_iinc (j := 5) (w := (v5 + 1)) (L' := [(5, aI (v5 + 1)), (0, aR (some v0)), (1, aR (some v1)), (2, aI v2), (3, aI v3), (4, aI v4), (6, aI v6)]) rfl (by rfl) rfl (Nat.le_of_ble_eq_true rfl) dX12_layLays_103 ?_
    refine r_goto (tgt := 40) (by decide) dX12_layLays_106 ?_
    exact r_sub [1, 2, 3, 4, 5, 0] rfl (hX40 _ _ _ _ _ _ _ hf)
  · replace hf := hf.2 hc
    refine r_aload_n (j := 1) rfl rfl dX12_layLays_74 ?_
    refine r_iload_n (j := 2) rfl rfl dX12_layLays_75 ?_
    refine r_iload (j := 6) rfl dX12_layLays_76 ?_
    try unfold C_X12_isAgain at hf
    refine r_invSZ (As := [aR (some v1), aI v2, aI v6]) (dz := d) (mz := 0) (sz := 0) rfl wd_7_203 wd_7_204 cf_X12_isAgain (Nat.le_refl _) (Nat.zero_le _) (Nat.zero_le _) (cat_ok (Nat.le_of_ble_eq_true rfl)) dX12_layLays_78 hf (fun r2 σ1 hk => ?_)
    replace hf := hk
    clear hk
    refine r_ifneZ (b := r2) (tgt := 97) (by decide) dX12_layLays_81 (fun hc => ?_) (fun hc => ?_)
    · replace hf := hf.1 hc
      exact r_sub [0, 1, 2, 3, 4, 5, 6] rfl (b_X12_layLays_97 hX7 hX16 hX26 hX40 hX54 hf)
    · replace hf := hf.2 hc
      refine r_aload_n (j := 0) rfl rfl dX12_layLays_84 ?_
      refine r_aload_n (j := 1) rfl rfl dX12_layLays_85 ?_
      refine r_iload_n (j := 2) rfl rfl dX12_layLays_86 ?_
      refine r_iload_n (j := 3) rfl rfl dX12_layLays_87 ?_
      refine r_iload (j := 5) rfl dX12_layLays_88 ?_
      refine r_iload (j := 4) rfl dX12_layLays_90 ?_
      refine r_iload (j := 6) rfl dX12_layLays_92 ?_
      try unfold C_X12_layOne at hf
      obtain ⟨⟨fs_r4, ha_r4⟩, hf⟩ := hf
      refine r_invVU (t := 12) (As := [aR (some v1), aI v2, aI v3, aI v5, aI v4, aI v6]) (dz := d) (mz := 0) (sz := 0) rfl wd_7_215 wd_7_217 wd_p_71 cf_X12_layOne (Nat.le_refl _) (Nat.zero_le _) (Nat.zero_le _) (cat_ok (Nat.le_of_ble_eq_true rfl)) rfl rfl ha_r4 dX12_layLays_94 hf (fun σ3 hk => ?_)
      replace hf := hk
      clear hk
      exact r_sub [0, 1, 2, 3, 4, 5, 6] rfl (b_X12_layLays_97 hX7 hX16 hX26 hX40 hX54 hf)
def F_X12_layLays_54 (l : Launch) (G : GG) (d : Nat) (X7 : Nat → Nat → Int32 → Hp → Prop) (X16 : Nat → Nat → Int32 → Int32 → Hp → Prop) (X26 : Nat → Nat → Int32 → Int32 → Int32 → Hp → Prop) (X40 : Nat → Nat → Int32 → Int32 → Int32 → Int32 → Hp → Prop) (X54 : Nat → Nat → Int32 → Int32 → Int32 → Int32 → Int32 → Hp → Prop) (v0 : Nat) (v1 : Nat) (v2 : Int32) (v3 : Int32) (v4 : Int32) (v5 : Int32) (v6 : Int32) (σ : Hp) (K : Hp → Prop) : Prop :=
  gI σ v1 (29 + v2) fun x5 =>
  (¬ (x5 : Int32) = (1 : Int32) →
    F_X12_layLays_71 l G d X7 X16 X26 X40 X54 v0 v1 v2 v3 v4 v5 v6 v6 1 σ K) ∧
  ((x5 : Int32) = (1 : Int32) →
    F_X12_layLays_71 l G d X7 X16 X26 X40 X54 v0 v1 v2 v3 v4 v5 v6 v6 4 σ K)
set_option maxRecDepth 100000 in
set_option maxHeartbeats 4000000 in
theorem b_X12_layLays_54 {l : Launch} {G : GG} {d : Nat} {X7 : Nat → Nat → Int32 → Hp → Prop} {X16 : Nat → Nat → Int32 → Int32 → Hp → Prop} {X26 : Nat → Nat → Int32 → Int32 → Int32 → Hp → Prop} {X40 : Nat → Nat → Int32 → Int32 → Int32 → Int32 → Hp → Prop} {X54 : Nat → Nat → Int32 → Int32 → Int32 → Int32 → Int32 → Hp → Prop} {v0 : Nat} {v1 : Nat} {v2 : Int32} {v3 : Int32} {v4 : Int32} {v5 : Int32} {v6 : Int32} {σ : Hp} {K : Hp → Prop} (hX7 : ∀ v0 v1 v2 σ, X7 v0 v1 v2 σ → Wd l G (d + 1) "CoinsLaidModel" yX12_layLays cX12_layLays 7 none 7 [(0, aR (some v0)), (1, aR (some v1)), (2, aI v2)] [] σ 0 0 (xM (QV K))) (hX16 : ∀ v0 v1 v2 v3 σ, X16 v0 v1 v2 v3 σ → Wd l G (d + 1) "CoinsLaidModel" yX12_layLays cX12_layLays 7 none 16 [(0, aR (some v0)), (1, aR (some v1)), (2, aI v2), (3, aI v3)] [] σ 0 0 (xM (QV K))) (hX26 : ∀ v0 v1 v2 v3 v4 σ, X26 v0 v1 v2 v3 v4 σ → Wd l G (d + 1) "CoinsLaidModel" yX12_layLays cX12_layLays 7 none 26 [(0, aR (some v0)), (1, aR (some v1)), (2, aI v2), (3, aI v3), (4, aI v4)] [] σ 0 0 (xM (QV K))) (hX40 : ∀ v0 v1 v2 v3 v4 v5 σ, X40 v0 v1 v2 v3 v4 v5 σ → Wd l G (d + 1) "CoinsLaidModel" yX12_layLays cX12_layLays 7 none 40 [(0, aR (some v0)), (1, aR (some v1)), (2, aI v2), (3, aI v3), (4, aI v4), (5, aI v5)] [] σ 0 0 (xM (QV K))) (hX54 : ∀ v0 v1 v2 v3 v4 v5 v6 σ, X54 v0 v1 v2 v3 v4 v5 v6 σ → Wd l G (d + 1) "CoinsLaidModel" yX12_layLays cX12_layLays 7 none 54 [(0, aR (some v0)), (1, aR (some v1)), (2, aI v2), (3, aI v3), (4, aI v4), (5, aI v5), (6, aI v6)] [] σ 0 0 (xM (QV K))) (hf : F_X12_layLays_54 l G d X7 X16 X26 X40 X54 v0 v1 v2 v3 v4 v5 v6 σ K) : Wd l G (d + 1) "CoinsLaidModel" yX12_layLays cX12_layLays 7 none 54 [(0, aR (some v0)), (1, aR (some v1)), (2, aI v2), (3, aI v3), (4, aI v4), (5, aI v5), (6, aI v6)] [] σ 0 0 (xM (QV K)) := by
  unfold F_X12_layLays_54 at hf
  refine r_iload (j := 6) rfl dX12_layLays_54 ?_
  refine r_aload_n (j := 1) rfl rfl dX12_layLays_56 ?_
  refine r_bipush (v := 29) (by decide) dX12_layLays_57 ?_
  refine r_iload_n (j := 2) rfl rfl dX12_layLays_59 ?_
  refine r_iadd (x := 29) (y := v2) dX12_layLays_60 ?_
  obtain ⟨N_x5, f_x5, ha_x5, hi_x5, hf⟩ := hf
  refine r_iald ha_x5 hi_x5 dX12_layLays_61 ?_
  generalize f_x5 ((29 + v2) : Int32).toNatClampNeg = x5 at hf ⊢
  refine r_iconst (v := 1) (by decide) dX12_layLays_62 ?_
  refine r_icmpne (x := x5) (y := 1) (tgt := 70) (by decide) dX12_layLays_63 (fun hc => ?_) (fun hc => ?_)
  · replace hf := hf.1 hc
    refine r_iconst (v := 1) (by decide) dX12_layLays_70 ?_
    exact r_sub [0, 1, 2, 3, 4, 5, 6] rfl (b_X12_layLays_71 hX7 hX16 hX26 hX40 hX54 hf)
  · replace hf := hf.2 hc
    refine r_iconst (v := 4) (by decide) dX12_layLays_66 ?_
    refine r_goto (tgt := 71) (by decide) dX12_layLays_67 ?_
    exact r_sub [0, 1, 2, 3, 4, 5, 6] rfl (b_X12_layLays_71 hX7 hX16 hX26 hX40 hX54 hf)
def Z_X12_layLays_54 (l : Launch) (G : GG) (d : Nat) (X7 : Nat → Nat → Int32 → Hp → Prop) (X16 : Nat → Nat → Int32 → Int32 → Hp → Prop) (X26 : Nat → Nat → Int32 → Int32 → Int32 → Hp → Prop) (X40 : Nat → Nat → Int32 → Int32 → Int32 → Int32 → Hp → Prop) (K : Hp → Prop) : Nat → Nat → Nat → Int32 → Int32 → Int32 → Int32 → Int32 → Hp → Prop
  | 0 => fun _ _ _ _ _ _ _ _ => False
  | n + 1 => fun v0 v1 v2 v3 v4 v5 v6 σ => F_X12_layLays_54 l G d X7 X16 X26 X40 (Z_X12_layLays_54 l G d X7 X16 X26 X40 K n) v0 v1 v2 v3 v4 v5 v6 σ K
theorem z_X12_layLays_54 {l : Launch} {G : GG} {d : Nat} {X7 : Nat → Nat → Int32 → Hp → Prop} {X16 : Nat → Nat → Int32 → Int32 → Hp → Prop} {X26 : Nat → Nat → Int32 → Int32 → Int32 → Hp → Prop} {X40 : Nat → Nat → Int32 → Int32 → Int32 → Int32 → Hp → Prop} {K : Hp → Prop} (hX7 : ∀ v0 v1 v2 σ, X7 v0 v1 v2 σ → Wd l G (d + 1) "CoinsLaidModel" yX12_layLays cX12_layLays 7 none 7 [(0, aR (some v0)), (1, aR (some v1)), (2, aI v2)] [] σ 0 0 (xM (QV K))) (hX16 : ∀ v0 v1 v2 v3 σ, X16 v0 v1 v2 v3 σ → Wd l G (d + 1) "CoinsLaidModel" yX12_layLays cX12_layLays 7 none 16 [(0, aR (some v0)), (1, aR (some v1)), (2, aI v2), (3, aI v3)] [] σ 0 0 (xM (QV K))) (hX26 : ∀ v0 v1 v2 v3 v4 σ, X26 v0 v1 v2 v3 v4 σ → Wd l G (d + 1) "CoinsLaidModel" yX12_layLays cX12_layLays 7 none 26 [(0, aR (some v0)), (1, aR (some v1)), (2, aI v2), (3, aI v3), (4, aI v4)] [] σ 0 0 (xM (QV K))) (hX40 : ∀ v0 v1 v2 v3 v4 v5 σ, X40 v0 v1 v2 v3 v4 v5 σ → Wd l G (d + 1) "CoinsLaidModel" yX12_layLays cX12_layLays 7 none 40 [(0, aR (some v0)), (1, aR (some v1)), (2, aI v2), (3, aI v3), (4, aI v4), (5, aI v5)] [] σ 0 0 (xM (QV K))) : ∀ (n : Nat) v0 v1 v2 v3 v4 v5 v6 σ, Z_X12_layLays_54 l G d X7 X16 X26 X40 K n v0 v1 v2 v3 v4 v5 v6 σ → Wd l G (d + 1) "CoinsLaidModel" yX12_layLays cX12_layLays 7 none 54 [(0, aR (some v0)), (1, aR (some v1)), (2, aI v2), (3, aI v3), (4, aI v4), (5, aI v5), (6, aI v6)] [] σ 0 0 (xM (QV K)) := by
  intro n
  induction n with
  | zero => intro v0 v1 v2 v3 v4 v5 v6 σ hf; exact hf.elim
  | succ n ih => intro v0 v1 v2 v3 v4 v5 v6 σ hf; exact b_X12_layLays_54 hX7 hX16 hX26 hX40 ih hf
def F_X12_layLays_40 (l : Launch) (G : GG) (d : Nat) (X7 : Nat → Nat → Int32 → Hp → Prop) (X16 : Nat → Nat → Int32 → Int32 → Hp → Prop) (X26 : Nat → Nat → Int32 → Int32 → Int32 → Hp → Prop) (X40 : Nat → Nat → Int32 → Int32 → Int32 → Int32 → Hp → Prop) (v0 : Nat) (v1 : Nat) (v2 : Int32) (v3 : Int32) (v4 : Int32) (v5 : Int32) (σ : Hp) (K : Hp → Prop) : Prop :=
  gI σ v1 (7 + v3) fun x6 =>
  ((x6 : Int32) ≤ (v5 : Int32) →
    X26 v0 v1 v2 v3 (v4 + 1) σ) ∧
  (¬ (x6 : Int32) ≤ (v5 : Int32) →
    ∃ n, Z_X12_layLays_54 l G d X7 X16 X26 X40 K n v0 v1 v2 v3 v4 v5 0 σ)
set_option maxRecDepth 100000 in
set_option maxHeartbeats 4000000 in
theorem b_X12_layLays_40 {l : Launch} {G : GG} {d : Nat} {X7 : Nat → Nat → Int32 → Hp → Prop} {X16 : Nat → Nat → Int32 → Int32 → Hp → Prop} {X26 : Nat → Nat → Int32 → Int32 → Int32 → Hp → Prop} {X40 : Nat → Nat → Int32 → Int32 → Int32 → Int32 → Hp → Prop} {v0 : Nat} {v1 : Nat} {v2 : Int32} {v3 : Int32} {v4 : Int32} {v5 : Int32} {σ : Hp} {K : Hp → Prop} (hX7 : ∀ v0 v1 v2 σ, X7 v0 v1 v2 σ → Wd l G (d + 1) "CoinsLaidModel" yX12_layLays cX12_layLays 7 none 7 [(0, aR (some v0)), (1, aR (some v1)), (2, aI v2)] [] σ 0 0 (xM (QV K))) (hX16 : ∀ v0 v1 v2 v3 σ, X16 v0 v1 v2 v3 σ → Wd l G (d + 1) "CoinsLaidModel" yX12_layLays cX12_layLays 7 none 16 [(0, aR (some v0)), (1, aR (some v1)), (2, aI v2), (3, aI v3)] [] σ 0 0 (xM (QV K))) (hX26 : ∀ v0 v1 v2 v3 v4 σ, X26 v0 v1 v2 v3 v4 σ → Wd l G (d + 1) "CoinsLaidModel" yX12_layLays cX12_layLays 7 none 26 [(0, aR (some v0)), (1, aR (some v1)), (2, aI v2), (3, aI v3), (4, aI v4)] [] σ 0 0 (xM (QV K))) (hX40 : ∀ v0 v1 v2 v3 v4 v5 σ, X40 v0 v1 v2 v3 v4 v5 σ → Wd l G (d + 1) "CoinsLaidModel" yX12_layLays cX12_layLays 7 none 40 [(0, aR (some v0)), (1, aR (some v1)), (2, aI v2), (3, aI v3), (4, aI v4), (5, aI v5)] [] σ 0 0 (xM (QV K))) (hf : F_X12_layLays_40 l G d X7 X16 X26 X40 v0 v1 v2 v3 v4 v5 σ K) : Wd l G (d + 1) "CoinsLaidModel" yX12_layLays cX12_layLays 7 none 40 [(0, aR (some v0)), (1, aR (some v1)), (2, aI v2), (3, aI v3), (4, aI v4), (5, aI v5)] [] σ 0 0 (xM (QV K)) := by
  unfold F_X12_layLays_40 at hf
  refine r_iload (j := 5) rfl dX12_layLays_40 ?_
  refine r_aload_n (j := 1) rfl rfl dX12_layLays_42 ?_
  refine r_bipush (v := 7) (by decide) dX12_layLays_43 ?_
  refine r_iload_n (j := 3) rfl rfl dX12_layLays_45 ?_
  refine r_iadd (x := 7) (y := v3) dX12_layLays_46 ?_
  obtain ⟨N_x6, f_x6, ha_x6, hi_x6, hf⟩ := hf
  refine r_iald ha_x6 hi_x6 dX12_layLays_47 ?_
  generalize f_x6 ((7 + v3) : Int32).toNatClampNeg = x6 at hf ⊢
  refine r_icmpge (x := v5) (y := x6) (tgt := 109) (by decide) dX12_layLays_48 (fun hc => ?_) (fun hc => ?_)
  · replace hf := hf.1 hc
    refine r_iinc (j := 4) (w := (v4 + 1)) (L' := [(4, aI (v4 + 1)), (0, aR (some v0)), (1, aR (some v1)), (2, aI v2), (3, aI v3), (5, aI v5)]) rfl (by rfl) rfl (Nat.le_of_ble_eq_true rfl) dX12_layLays_109 ?_
    refine r_goto (tgt := 26) (by decide) dX12_layLays_112 ?_
    exact r_sub [1, 2, 3, 4, 0] rfl (hX26 _ _ _ _ _ _ hf)
  · replace hf := hf.2 hc
    refine r_iconst (v := 0) (by decide) dX12_layLays_51 ?_
    refine r_istore (L' := [(6, aI 0), (0, aR (some v0)), (1, aR (some v1)), (2, aI v2), (3, aI v3), (4, aI v4), (5, aI v5)]) rfl (Nat.le_of_ble_eq_true rfl) dX12_layLays_52 ?_
    obtain ⟨n, hf⟩ := hf
    exact r_sub [1, 2, 3, 4, 5, 6, 0] rfl (z_X12_layLays_54 hX7 hX16 hX26 hX40 n _ _ _ _ _ _ _ _ hf)
def Z_X12_layLays_40 (l : Launch) (G : GG) (d : Nat) (X7 : Nat → Nat → Int32 → Hp → Prop) (X16 : Nat → Nat → Int32 → Int32 → Hp → Prop) (X26 : Nat → Nat → Int32 → Int32 → Int32 → Hp → Prop) (K : Hp → Prop) : Nat → Nat → Nat → Int32 → Int32 → Int32 → Int32 → Hp → Prop
  | 0 => fun _ _ _ _ _ _ _ => False
  | n + 1 => fun v0 v1 v2 v3 v4 v5 σ => F_X12_layLays_40 l G d X7 X16 X26 (Z_X12_layLays_40 l G d X7 X16 X26 K n) v0 v1 v2 v3 v4 v5 σ K
theorem z_X12_layLays_40 {l : Launch} {G : GG} {d : Nat} {X7 : Nat → Nat → Int32 → Hp → Prop} {X16 : Nat → Nat → Int32 → Int32 → Hp → Prop} {X26 : Nat → Nat → Int32 → Int32 → Int32 → Hp → Prop} {K : Hp → Prop} (hX7 : ∀ v0 v1 v2 σ, X7 v0 v1 v2 σ → Wd l G (d + 1) "CoinsLaidModel" yX12_layLays cX12_layLays 7 none 7 [(0, aR (some v0)), (1, aR (some v1)), (2, aI v2)] [] σ 0 0 (xM (QV K))) (hX16 : ∀ v0 v1 v2 v3 σ, X16 v0 v1 v2 v3 σ → Wd l G (d + 1) "CoinsLaidModel" yX12_layLays cX12_layLays 7 none 16 [(0, aR (some v0)), (1, aR (some v1)), (2, aI v2), (3, aI v3)] [] σ 0 0 (xM (QV K))) (hX26 : ∀ v0 v1 v2 v3 v4 σ, X26 v0 v1 v2 v3 v4 σ → Wd l G (d + 1) "CoinsLaidModel" yX12_layLays cX12_layLays 7 none 26 [(0, aR (some v0)), (1, aR (some v1)), (2, aI v2), (3, aI v3), (4, aI v4)] [] σ 0 0 (xM (QV K))) : ∀ (n : Nat) v0 v1 v2 v3 v4 v5 σ, Z_X12_layLays_40 l G d X7 X16 X26 K n v0 v1 v2 v3 v4 v5 σ → Wd l G (d + 1) "CoinsLaidModel" yX12_layLays cX12_layLays 7 none 40 [(0, aR (some v0)), (1, aR (some v1)), (2, aI v2), (3, aI v3), (4, aI v4), (5, aI v5)] [] σ 0 0 (xM (QV K)) := by
  intro n
  induction n with
  | zero => intro v0 v1 v2 v3 v4 v5 σ hf; exact hf.elim
  | succ n ih => intro v0 v1 v2 v3 v4 v5 σ hf; exact b_X12_layLays_40 hX7 hX16 hX26 ih hf
def F_X12_layLays_26 (l : Launch) (G : GG) (d : Nat) (X7 : Nat → Nat → Int32 → Hp → Prop) (X16 : Nat → Nat → Int32 → Int32 → Hp → Prop) (X26 : Nat → Nat → Int32 → Int32 → Int32 → Hp → Prop) (v0 : Nat) (v1 : Nat) (v2 : Int32) (v3 : Int32) (v4 : Int32) (σ : Hp) (K : Hp → Prop) : Prop :=
  gI σ v1 (10 + v3) fun x7 =>
  ((x7 : Int32) ≤ (v4 : Int32) →
    X16 v0 v1 v2 (v3 + 1) σ) ∧
  (¬ (x7 : Int32) ≤ (v4 : Int32) →
    ∃ n, Z_X12_layLays_40 l G d X7 X16 X26 K n v0 v1 v2 v3 v4 0 σ)
set_option maxRecDepth 100000 in
set_option maxHeartbeats 4000000 in
theorem b_X12_layLays_26 {l : Launch} {G : GG} {d : Nat} {X7 : Nat → Nat → Int32 → Hp → Prop} {X16 : Nat → Nat → Int32 → Int32 → Hp → Prop} {X26 : Nat → Nat → Int32 → Int32 → Int32 → Hp → Prop} {v0 : Nat} {v1 : Nat} {v2 : Int32} {v3 : Int32} {v4 : Int32} {σ : Hp} {K : Hp → Prop} (hX7 : ∀ v0 v1 v2 σ, X7 v0 v1 v2 σ → Wd l G (d + 1) "CoinsLaidModel" yX12_layLays cX12_layLays 7 none 7 [(0, aR (some v0)), (1, aR (some v1)), (2, aI v2)] [] σ 0 0 (xM (QV K))) (hX16 : ∀ v0 v1 v2 v3 σ, X16 v0 v1 v2 v3 σ → Wd l G (d + 1) "CoinsLaidModel" yX12_layLays cX12_layLays 7 none 16 [(0, aR (some v0)), (1, aR (some v1)), (2, aI v2), (3, aI v3)] [] σ 0 0 (xM (QV K))) (hX26 : ∀ v0 v1 v2 v3 v4 σ, X26 v0 v1 v2 v3 v4 σ → Wd l G (d + 1) "CoinsLaidModel" yX12_layLays cX12_layLays 7 none 26 [(0, aR (some v0)), (1, aR (some v1)), (2, aI v2), (3, aI v3), (4, aI v4)] [] σ 0 0 (xM (QV K))) (hf : F_X12_layLays_26 l G d X7 X16 X26 v0 v1 v2 v3 v4 σ K) : Wd l G (d + 1) "CoinsLaidModel" yX12_layLays cX12_layLays 7 none 26 [(0, aR (some v0)), (1, aR (some v1)), (2, aI v2), (3, aI v3), (4, aI v4)] [] σ 0 0 (xM (QV K)) := by
  unfold F_X12_layLays_26 at hf
  refine r_iload (j := 4) rfl dX12_layLays_26 ?_
  refine r_aload_n (j := 1) rfl rfl dX12_layLays_28 ?_
  refine r_bipush (v := 10) (by decide) dX12_layLays_29 ?_
  refine r_iload_n (j := 3) rfl rfl dX12_layLays_31 ?_
  refine r_iadd (x := 10) (y := v3) dX12_layLays_32 ?_
  obtain ⟨N_x7, f_x7, ha_x7, hi_x7, hf⟩ := hf
  refine r_iald ha_x7 hi_x7 dX12_layLays_33 ?_
  generalize f_x7 ((10 + v3) : Int32).toNatClampNeg = x7 at hf ⊢
  refine r_icmpge (x := v4) (y := x7) (tgt := 115) (by decide) dX12_layLays_34 (fun hc => ?_) (fun hc => ?_)
  · replace hf := hf.1 hc
    refine r_iinc (j := 3) (w := (v3 + 1)) (L' := [(3, aI (v3 + 1)), (0, aR (some v0)), (1, aR (some v1)), (2, aI v2), (4, aI v4)]) rfl (by rfl) rfl (Nat.le_of_ble_eq_true rfl) dX12_layLays_115 ?_
    refine r_goto (tgt := 16) (by decide) dX12_layLays_118 ?_
    exact r_sub [1, 2, 3, 0] rfl (hX16 _ _ _ _ _ hf)
  · replace hf := hf.2 hc
    refine r_iconst (v := 0) (by decide) dX12_layLays_37 ?_
    refine r_istore (L' := [(5, aI 0), (0, aR (some v0)), (1, aR (some v1)), (2, aI v2), (3, aI v3), (4, aI v4)]) rfl (Nat.le_of_ble_eq_true rfl) dX12_layLays_38 ?_
    obtain ⟨n, hf⟩ := hf
    exact r_sub [1, 2, 3, 4, 5, 0] rfl (z_X12_layLays_40 hX7 hX16 hX26 n _ _ _ _ _ _ _ hf)
def Z_X12_layLays_26 (l : Launch) (G : GG) (d : Nat) (X7 : Nat → Nat → Int32 → Hp → Prop) (X16 : Nat → Nat → Int32 → Int32 → Hp → Prop) (K : Hp → Prop) : Nat → Nat → Nat → Int32 → Int32 → Int32 → Hp → Prop
  | 0 => fun _ _ _ _ _ _ => False
  | n + 1 => fun v0 v1 v2 v3 v4 σ => F_X12_layLays_26 l G d X7 X16 (Z_X12_layLays_26 l G d X7 X16 K n) v0 v1 v2 v3 v4 σ K
theorem z_X12_layLays_26 {l : Launch} {G : GG} {d : Nat} {X7 : Nat → Nat → Int32 → Hp → Prop} {X16 : Nat → Nat → Int32 → Int32 → Hp → Prop} {K : Hp → Prop} (hX7 : ∀ v0 v1 v2 σ, X7 v0 v1 v2 σ → Wd l G (d + 1) "CoinsLaidModel" yX12_layLays cX12_layLays 7 none 7 [(0, aR (some v0)), (1, aR (some v1)), (2, aI v2)] [] σ 0 0 (xM (QV K))) (hX16 : ∀ v0 v1 v2 v3 σ, X16 v0 v1 v2 v3 σ → Wd l G (d + 1) "CoinsLaidModel" yX12_layLays cX12_layLays 7 none 16 [(0, aR (some v0)), (1, aR (some v1)), (2, aI v2), (3, aI v3)] [] σ 0 0 (xM (QV K))) : ∀ (n : Nat) v0 v1 v2 v3 v4 σ, Z_X12_layLays_26 l G d X7 X16 K n v0 v1 v2 v3 v4 σ → Wd l G (d + 1) "CoinsLaidModel" yX12_layLays cX12_layLays 7 none 26 [(0, aR (some v0)), (1, aR (some v1)), (2, aI v2), (3, aI v3), (4, aI v4)] [] σ 0 0 (xM (QV K)) := by
  intro n
  induction n with
  | zero => intro v0 v1 v2 v3 v4 σ hf; exact hf.elim
  | succ n ih => intro v0 v1 v2 v3 v4 σ hf; exact b_X12_layLays_26 hX7 hX16 ih hf
def F_X12_layLays_16 (l : Launch) (G : GG) (d : Nat) (X7 : Nat → Nat → Int32 → Hp → Prop) (X16 : Nat → Nat → Int32 → Int32 → Hp → Prop) (v0 : Nat) (v1 : Nat) (v2 : Int32) (v3 : Int32) (σ : Hp) (K : Hp → Prop) : Prop :=
  gI σ v1 3 fun x8 =>
  ((x8 : Int32) ≤ (v3 : Int32) →
    X7 v0 v1 (v2 + 1) σ) ∧
  (¬ (x8 : Int32) ≤ (v3 : Int32) →
    ∃ n, Z_X12_layLays_26 l G d X7 X16 K n v0 v1 v2 v3 0 σ)
set_option maxRecDepth 100000 in
set_option maxHeartbeats 4000000 in
theorem b_X12_layLays_16 {l : Launch} {G : GG} {d : Nat} {X7 : Nat → Nat → Int32 → Hp → Prop} {X16 : Nat → Nat → Int32 → Int32 → Hp → Prop} {v0 : Nat} {v1 : Nat} {v2 : Int32} {v3 : Int32} {σ : Hp} {K : Hp → Prop} (hX7 : ∀ v0 v1 v2 σ, X7 v0 v1 v2 σ → Wd l G (d + 1) "CoinsLaidModel" yX12_layLays cX12_layLays 7 none 7 [(0, aR (some v0)), (1, aR (some v1)), (2, aI v2)] [] σ 0 0 (xM (QV K))) (hX16 : ∀ v0 v1 v2 v3 σ, X16 v0 v1 v2 v3 σ → Wd l G (d + 1) "CoinsLaidModel" yX12_layLays cX12_layLays 7 none 16 [(0, aR (some v0)), (1, aR (some v1)), (2, aI v2), (3, aI v3)] [] σ 0 0 (xM (QV K))) (hf : F_X12_layLays_16 l G d X7 X16 v0 v1 v2 v3 σ K) : Wd l G (d + 1) "CoinsLaidModel" yX12_layLays cX12_layLays 7 none 16 [(0, aR (some v0)), (1, aR (some v1)), (2, aI v2), (3, aI v3)] [] σ 0 0 (xM (QV K)) := by
  unfold F_X12_layLays_16 at hf
  refine r_iload_n (j := 3) rfl rfl dX12_layLays_16 ?_
  refine r_aload_n (j := 1) rfl rfl dX12_layLays_17 ?_
  refine r_iconst (v := 3) (by decide) dX12_layLays_18 ?_
  obtain ⟨N_x8, f_x8, ha_x8, hi_x8, hf⟩ := hf
  refine r_iald ha_x8 hi_x8 dX12_layLays_19 ?_
  generalize f_x8 (3 : Int32).toNatClampNeg = x8 at hf ⊢
  refine r_icmpge (x := v3) (y := x8) (tgt := 121) (by decide) dX12_layLays_20 (fun hc => ?_) (fun hc => ?_)
  · replace hf := hf.1 hc
    refine r_iinc (j := 2) (w := (v2 + 1)) (L' := [(2, aI (v2 + 1)), (0, aR (some v0)), (1, aR (some v1)), (3, aI v3)]) rfl (by rfl) rfl (Nat.le_of_ble_eq_true rfl) dX12_layLays_121 ?_
    refine r_goto (tgt := 7) (by decide) dX12_layLays_124 ?_
    exact r_sub [1, 2, 0] rfl (hX7 _ _ _ _ hf)
  · replace hf := hf.2 hc
    refine r_iconst (v := 0) (by decide) dX12_layLays_23 ?_
    refine r_istore (L' := [(4, aI 0), (0, aR (some v0)), (1, aR (some v1)), (2, aI v2), (3, aI v3)]) rfl (Nat.le_of_ble_eq_true rfl) dX12_layLays_24 ?_
    obtain ⟨n, hf⟩ := hf
    exact r_sub [1, 2, 3, 4, 0] rfl (z_X12_layLays_26 hX7 hX16 n _ _ _ _ _ _ hf)
def Z_X12_layLays_16 (l : Launch) (G : GG) (d : Nat) (X7 : Nat → Nat → Int32 → Hp → Prop) (K : Hp → Prop) : Nat → Nat → Nat → Int32 → Int32 → Hp → Prop
  | 0 => fun _ _ _ _ _ => False
  | n + 1 => fun v0 v1 v2 v3 σ => F_X12_layLays_16 l G d X7 (Z_X12_layLays_16 l G d X7 K n) v0 v1 v2 v3 σ K
theorem z_X12_layLays_16 {l : Launch} {G : GG} {d : Nat} {X7 : Nat → Nat → Int32 → Hp → Prop} {K : Hp → Prop} (hX7 : ∀ v0 v1 v2 σ, X7 v0 v1 v2 σ → Wd l G (d + 1) "CoinsLaidModel" yX12_layLays cX12_layLays 7 none 7 [(0, aR (some v0)), (1, aR (some v1)), (2, aI v2)] [] σ 0 0 (xM (QV K))) : ∀ (n : Nat) v0 v1 v2 v3 σ, Z_X12_layLays_16 l G d X7 K n v0 v1 v2 v3 σ → Wd l G (d + 1) "CoinsLaidModel" yX12_layLays cX12_layLays 7 none 16 [(0, aR (some v0)), (1, aR (some v1)), (2, aI v2), (3, aI v3)] [] σ 0 0 (xM (QV K)) := by
  intro n
  induction n with
  | zero => intro v0 v1 v2 v3 σ hf; exact hf.elim
  | succ n ih => intro v0 v1 v2 v3 σ hf; exact b_X12_layLays_16 hX7 ih hf
def F_X12_layLays_7 (l : Launch) (G : GG) (d : Nat) (X7 : Nat → Nat → Int32 → Hp → Prop) (v0 : Nat) (v1 : Nat) (v2 : Int32) (σ : Hp) (K : Hp → Prop) : Prop :=
  gI σ v1 4 fun x9 =>
  ((x9 : Int32) ≤ (v2 : Int32) →
    K σ) ∧
  (¬ (x9 : Int32) ≤ (v2 : Int32) →
    ∃ n, Z_X12_layLays_16 l G d X7 K n v0 v1 v2 0 σ)
set_option maxRecDepth 100000 in
set_option maxHeartbeats 4000000 in
theorem b_X12_layLays_7 {l : Launch} {G : GG} {d : Nat} {X7 : Nat → Nat → Int32 → Hp → Prop} {v0 : Nat} {v1 : Nat} {v2 : Int32} {σ : Hp} {K : Hp → Prop} (hX7 : ∀ v0 v1 v2 σ, X7 v0 v1 v2 σ → Wd l G (d + 1) "CoinsLaidModel" yX12_layLays cX12_layLays 7 none 7 [(0, aR (some v0)), (1, aR (some v1)), (2, aI v2)] [] σ 0 0 (xM (QV K))) (hf : F_X12_layLays_7 l G d X7 v0 v1 v2 σ K) : Wd l G (d + 1) "CoinsLaidModel" yX12_layLays cX12_layLays 7 none 7 [(0, aR (some v0)), (1, aR (some v1)), (2, aI v2)] [] σ 0 0 (xM (QV K)) := by
  unfold F_X12_layLays_7 at hf
  refine r_iload_n (j := 2) rfl rfl dX12_layLays_7 ?_
  refine r_aload_n (j := 1) rfl rfl dX12_layLays_8 ?_
  refine r_iconst (v := 4) (by decide) dX12_layLays_9 ?_
  obtain ⟨N_x9, f_x9, ha_x9, hi_x9, hf⟩ := hf
  refine r_iald ha_x9 hi_x9 dX12_layLays_10 ?_
  generalize f_x9 (4 : Int32).toNatClampNeg = x9 at hf ⊢
  refine r_icmpge (x := v2) (y := x9) (tgt := 127) (by decide) dX12_layLays_11 (fun hc => ?_) (fun hc => ?_)
  · replace hf := hf.1 hc
    exact r_return rfl dX12_layLays_127 rfl ⟨rfl, hf⟩
  · replace hf := hf.2 hc
    refine r_iconst (v := 0) (by decide) dX12_layLays_14 ?_
    refine r_istore_n (L' := [(3, aI 0), (0, aR (some v0)), (1, aR (some v1)), (2, aI v2)]) rfl rfl (Nat.le_of_ble_eq_true rfl) dX12_layLays_15 ?_
    obtain ⟨n, hf⟩ := hf
    exact r_sub [1, 2, 3, 0] rfl (z_X12_layLays_16 hX7 n _ _ _ _ _ hf)
def Z_X12_layLays_7 (l : Launch) (G : GG) (d : Nat) (K : Hp → Prop) : Nat → Nat → Nat → Int32 → Hp → Prop
  | 0 => fun _ _ _ _ => False
  | n + 1 => fun v0 v1 v2 σ => F_X12_layLays_7 l G d (Z_X12_layLays_7 l G d K n) v0 v1 v2 σ K
theorem z_X12_layLays_7 {l : Launch} {G : GG} {d : Nat} {K : Hp → Prop} : ∀ (n : Nat) v0 v1 v2 σ, Z_X12_layLays_7 l G d K n v0 v1 v2 σ → Wd l G (d + 1) "CoinsLaidModel" yX12_layLays cX12_layLays 7 none 7 [(0, aR (some v0)), (1, aR (some v1)), (2, aI v2)] [] σ 0 0 (xM (QV K)) := by
  intro n
  induction n with
  | zero => intro v0 v1 v2 σ hf; exact hf.elim
  | succ n ih => intro v0 v1 v2 σ hf; exact b_X12_layLays_7 ih hf
def F_X12_layLays (l : Launch) (G : GG) (d : Nat) (v0 : Nat) (v1 : Nat) (σ : Hp) (K : Hp → Prop) : Prop :=
  pF σ v0 12 30 (aI 0) fun σ10 =>
  ∃ n, Z_X12_layLays_7 l G d K n v0 v1 0 σ10
set_option maxRecDepth 100000 in
set_option maxHeartbeats 4000000 in
theorem b_X12_layLays_0 {l : Launch} {G : GG} {d : Nat} {v0 : Nat} {v1 : Nat} {σ : Hp} {K : Hp → Prop} (hf : F_X12_layLays l G d v0 v1 σ K) : Wd l G (d + 1) "CoinsLaidModel" yX12_layLays cX12_layLays 7 none 0 [(0, aR (some v0)), (1, aR (some v1))] [] σ 0 0 (xM (QV K)) := by
  unfold F_X12_layLays at hf
  refine r_aload_n (j := 0) rfl rfl dX12_layLays_0 ?_
  refine r_iconst (v := 0) (by decide) dX12_layLays_1 ?_
  obtain ⟨fs_x11, ha_x11, hf⟩ := hf
  generalize hσ10 : hset σ v0 (.inl (12, fs_x11.set 30 (aI 0))) = σ10 at hf
  refine r_put (Cn := RX12) (Tt := TX12) (N := 42) (n := 30) (v := aI 0) rfl uw_X12 (Nat.le_of_ble_eq_true rfl) wd_6_216 ha_x11 (ty0 := tyX12) tyX12_ok nmX12 rfl (fo_I 0) dX12_layLays_2 ?_
  rw [hσ10]
  refine r_iconst (v := 0) (by decide) dX12_layLays_5 ?_
  refine r_istore_n (L' := [(2, aI 0), (0, aR (some v0)), (1, aR (some v1))]) rfl rfl (Nat.le_of_ble_eq_true rfl) dX12_layLays_6 ?_
  obtain ⟨n, hf⟩ := hf
  exact r_sub [1, 2, 0] rfl (z_X12_layLays_7 n _ _ _ _ hf)
theorem m_X12_layLays {l : Launch} {G : GG} {d : Nat} {v0 : Nat} {v1 : Nat} {σ : Hp} {K : Hp → Prop} (hr : rv σ v0 12) (hf : F_X12_layLays l G d v0 v1 σ K) : C_X12_layLays l G (d + 1) v0 v1 σ K := ⟨hr, Sp.of (by decide) (Nat.le_of_ble_eq_true rfl) (b_X12_layLays_0 hf) rfl⟩
def F_X12_layOne_38 (l : Launch) (G : GG) (d : Nat) (σ : Hp) (K : Hp → Prop) : Prop :=
  K σ
set_option maxRecDepth 100000 in
set_option maxHeartbeats 4000000 in
theorem b_X12_layOne_38 {l : Launch} {G : GG} {d : Nat} {σ : Hp} {K : Hp → Prop} (hf : F_X12_layOne_38 l G d  σ K) : Wd l G (d + 1) "CoinsLaidModel" yX12_layOne cX12_layOne 10 none 38 [] [] σ 0 0 (xM (QV K)) := by
  unfold F_X12_layOne_38 at hf
  exact r_return rfl dX12_layOne_38 rfl ⟨rfl, hf⟩
def F_X12_layOne_119 (l : Launch) (G : GG) (d : Nat) (X45 : Nat → Nat → Int32 → Int32 → Int32 → Int32 → Int32 → Int32 → Int32 → Hp → Prop) (X60 : Nat → Nat → Int32 → Int32 → Int32 → Int32 → Int32 → Int32 → Int32 → Int32 → Hp → Prop) (v0 : Nat) (v1 : Nat) (v2 : Int32) (v3 : Int32) (v4 : Int32) (v5 : Int32) (v6 : Int32) (v8 : Int32) (v9 : Int32) (s0 : Int32) (s1 : Int32) (σ : Hp) (K : Hp → Prop) : Prop :=
  X60 v0 v1 v2 v3 v4 v5 v6 (s0 ||| s1) v8 (v9 + 1) σ
set_option maxRecDepth 100000 in
set_option maxHeartbeats 4000000 in
theorem b_X12_layOne_119 {l : Launch} {G : GG} {d : Nat} {X45 : Nat → Nat → Int32 → Int32 → Int32 → Int32 → Int32 → Int32 → Int32 → Hp → Prop} {X60 : Nat → Nat → Int32 → Int32 → Int32 → Int32 → Int32 → Int32 → Int32 → Int32 → Hp → Prop} {v0 : Nat} {v1 : Nat} {v2 : Int32} {v3 : Int32} {v4 : Int32} {v5 : Int32} {v6 : Int32} {v8 : Int32} {v9 : Int32} {s0 : Int32} {s1 : Int32} {σ : Hp} {K : Hp → Prop} (hX45 : ∀ v0 v1 v2 v3 v4 v5 v6 v7 v8 σ, X45 v0 v1 v2 v3 v4 v5 v6 v7 v8 σ → Wd l G (d + 1) "CoinsLaidModel" yX12_layOne cX12_layOne 10 none 45 [(0, aR (some v0)), (1, aR (some v1)), (2, aI v2), (3, aI v3), (4, aI v4), (5, aI v5), (6, aI v6), (7, aI v7), (8, aI v8)] [] σ 0 0 (xM (QV K))) (hX60 : ∀ v0 v1 v2 v3 v4 v5 v6 v7 v8 v9 σ, X60 v0 v1 v2 v3 v4 v5 v6 v7 v8 v9 σ → Wd l G (d + 1) "CoinsLaidModel" yX12_layOne cX12_layOne 10 none 60 [(0, aR (some v0)), (1, aR (some v1)), (2, aI v2), (3, aI v3), (4, aI v4), (5, aI v5), (6, aI v6), (7, aI v7), (8, aI v8), (9, aI v9)] [] σ 0 0 (xM (QV K))) (hf : F_X12_layOne_119 l G d X45 X60 v0 v1 v2 v3 v4 v5 v6 v8 v9 s0 s1 σ K) : Wd l G (d + 1) "CoinsLaidModel" yX12_layOne cX12_layOne 10 none 119 [(0, aR (some v0)), (1, aR (some v1)), (2, aI v2), (3, aI v3), (4, aI v4), (5, aI v5), (6, aI v6), (8, aI v8), (9, aI v9)] [aI s1, aI s0] σ 0 0 (xM (QV K)) := by
  unfold F_X12_layOne_119 at hf
  refine r_ior (x := s0) (y := s1) dX12_layOne_119 ?_
  refine r_istore (L' := [(7, aI (s0 ||| s1)), (0, aR (some v0)), (1, aR (some v1)), (2, aI v2), (3, aI v3), (4, aI v4), (5, aI v5), (6, aI v6), (8, aI v8), (9, aI v9)]) rfl (Nat.le_of_ble_eq_true rfl) dX12_layOne_120 ?_
  refine r_iinc (j := 9) (w := (v9 + 1)) (L' := [(9, aI (v9 + 1)), (7, aI (s0 ||| s1)), (0, aR (some v0)), (1, aR (some v1)), (2, aI v2), (3, aI v3), (4, aI v4), (5, aI v5), (6, aI v6), (8, aI v8)]) rfl (by rfl) rfl (Nat.le_of_ble_eq_true rfl) dX12_layOne_122 ?_
  refine r_goto (tgt := 60) (by decide) dX12_layOne_125 ?_
  exact r_sub [2, 3, 4, 5, 6, 7, 8, 1, 9, 0] rfl (hX60 _ _ _ _ _ _ _ _ _ _ _ hf)
def F_X12_layOne_60 (l : Launch) (G : GG) (d : Nat) (X45 : Nat → Nat → Int32 → Int32 → Int32 → Int32 → Int32 → Int32 → Int32 → Hp → Prop) (X60 : Nat → Nat → Int32 → Int32 → Int32 → Int32 → Int32 → Int32 → Int32 → Int32 → Hp → Prop) (v0 : Nat) (v1 : Nat) (v2 : Int32) (v3 : Int32) (v4 : Int32) (v5 : Int32) (v6 : Int32) (v7 : Int32) (v8 : Int32) (v9 : Int32) (σ : Hp) (K : Hp → Prop) : Prop :=
  C_X12_wideOf l G d v1 v2 v6 σ fun r2 σ1 =>
  ((r2 : Int32) ≤ (v9 : Int32) →
    X45 v0 v1 v2 v3 v4 v5 v6 v7 (v8 + 1) σ1) ∧
  (¬ (r2 : Int32) ≤ (v9 : Int32) →
    C_X12_hasSquare l G d v1 v2 v6 v9 v8 σ1 fun r4 σ3 =>
    (r4 = false →
      F_X12_layOne_119 l G d X45 X60 v0 v1 v2 v3 v4 v5 v6 v8 v9 v7 0 σ3 K) ∧
    (r4 = true →
      gI σ3 v1 (13 + v3) fun x5 =>
      gI σ3 v1 (7 + v3) fun x6 =>
      F_X12_layOne_119 l G d X45 X60 v0 v1 v2 v3 v4 v5 v6 v8 v9 v7 (1 <<< ((((x5 + (x6 * (v5 + v8))) + v4) + v9) &&& 31)) σ3 K))
set_option maxRecDepth 100000 in
set_option maxHeartbeats 4000000 in
theorem b_X12_layOne_60 {l : Launch} {G : GG} {d : Nat} {X45 : Nat → Nat → Int32 → Int32 → Int32 → Int32 → Int32 → Int32 → Int32 → Hp → Prop} {X60 : Nat → Nat → Int32 → Int32 → Int32 → Int32 → Int32 → Int32 → Int32 → Int32 → Hp → Prop} {v0 : Nat} {v1 : Nat} {v2 : Int32} {v3 : Int32} {v4 : Int32} {v5 : Int32} {v6 : Int32} {v7 : Int32} {v8 : Int32} {v9 : Int32} {σ : Hp} {K : Hp → Prop} (hX45 : ∀ v0 v1 v2 v3 v4 v5 v6 v7 v8 σ, X45 v0 v1 v2 v3 v4 v5 v6 v7 v8 σ → Wd l G (d + 1) "CoinsLaidModel" yX12_layOne cX12_layOne 10 none 45 [(0, aR (some v0)), (1, aR (some v1)), (2, aI v2), (3, aI v3), (4, aI v4), (5, aI v5), (6, aI v6), (7, aI v7), (8, aI v8)] [] σ 0 0 (xM (QV K))) (hX60 : ∀ v0 v1 v2 v3 v4 v5 v6 v7 v8 v9 σ, X60 v0 v1 v2 v3 v4 v5 v6 v7 v8 v9 σ → Wd l G (d + 1) "CoinsLaidModel" yX12_layOne cX12_layOne 10 none 60 [(0, aR (some v0)), (1, aR (some v1)), (2, aI v2), (3, aI v3), (4, aI v4), (5, aI v5), (6, aI v6), (7, aI v7), (8, aI v8), (9, aI v9)] [] σ 0 0 (xM (QV K))) (hf : F_X12_layOne_60 l G d X45 X60 v0 v1 v2 v3 v4 v5 v6 v7 v8 v9 σ K) : Wd l G (d + 1) "CoinsLaidModel" yX12_layOne cX12_layOne 10 none 60 [(0, aR (some v0)), (1, aR (some v1)), (2, aI v2), (3, aI v3), (4, aI v4), (5, aI v5), (6, aI v6), (7, aI v7), (8, aI v8), (9, aI v9)] [] σ 0 0 (xM (QV K)) := by
  unfold F_X12_layOne_60 at hf
  refine r_iload (j := 9) rfl dX12_layOne_60 ?_
  refine r_aload_n (j := 1) rfl rfl dX12_layOne_62 ?_
  refine r_iload_n (j := 2) rfl rfl dX12_layOne_63 ?_
  refine r_iload (j := 6) rfl dX12_layOne_64 ?_
  try unfold C_X12_wideOf at hf
  refine r_invSI (As := [aR (some v1), aI v2, aI v6]) (dz := d) (mz := 0) (sz := 0) rfl wd_7_206 wd_7_207 cf_X12_wideOf (Nat.le_refl _) (Nat.zero_le _) (Nat.zero_le _) (cat_ok (Nat.le_of_ble_eq_true rfl)) dX12_layOne_66 hf (fun r2 σ1 hk => ?_)
  replace hf := hk
  clear hk
  refine r_icmpge (x := v9) (y := r2) (tgt := 128) (by decide) dX12_layOne_69 (fun hc => ?_) (fun hc => ?_)
  · replace hf := hf.1 hc
    refine r_iinc (j := 8) (w := (v8 + 1)) (L' := [(8, aI (v8 + 1)), (0, aR (some v0)), (1, aR (some v1)), (2, aI v2), (3, aI v3), (4, aI v4), (5, aI v5), (6, aI v6), (7, aI v7), (9, aI v9)]) rfl (by rfl) rfl (Nat.le_of_ble_eq_true rfl) dX12_layOne_128 ?_
    refine r_goto (tgt := 45) (by decide) dX12_layOne_131 ?_
    exact r_sub [1, 2, 3, 4, 5, 6, 7, 8, 0] rfl (hX45 _ _ _ _ _ _ _ _ _ _ hf)
  · replace hf := hf.2 hc
    refine r_iload (j := 7) rfl dX12_layOne_72 ?_
    refine r_aload_n (j := 1) rfl rfl dX12_layOne_74 ?_
    refine r_iload_n (j := 2) rfl rfl dX12_layOne_75 ?_
    refine r_iload (j := 6) rfl dX12_layOne_76 ?_
    refine r_iload (j := 9) rfl dX12_layOne_78 ?_
    refine r_iload (j := 8) rfl dX12_layOne_80 ?_
    try unfold C_X12_hasSquare at hf
    refine r_invSZ (As := [aR (some v1), aI v2, aI v6, aI v9, aI v8]) (dz := d) (mz := 0) (sz := 0) rfl wd_7_212 wd_7_213 cf_X12_hasSquare (Nat.le_refl _) (Nat.zero_le _) (Nat.zero_le _) (cat_ok (Nat.le_of_ble_eq_true rfl)) dX12_layOne_82 hf (fun r4 σ3 hk => ?_)
    replace hf := hk
    clear hk
    refine r_ifeqZ (b := r4) (tgt := 118) (by decide) dX12_layOne_85 (fun hc => ?_) (fun hc => ?_)
    · replace hf := hf.1 hc
      refine r_iconst (v := 0) (by decide) dX12_layOne_118 ?_
      exact r_sub [0, 1, 2, 3, 4, 5, 6, 8, 9] rfl (b_X12_layOne_119 hX45 hX60 hf)
    · replace hf := hf.2 hc
      refine r_iconst (v := 1) (by decide) dX12_layOne_88 ?_
      refine r_aload_n (j := 1) rfl rfl dX12_layOne_89 ?_
      refine r_bipush (v := 13) (by decide) dX12_layOne_90 ?_
      refine r_iload_n (j := 3) rfl rfl dX12_layOne_92 ?_
      refine r_iadd (x := 13) (y := v3) dX12_layOne_93 ?_
      obtain ⟨N_x5, f_x5, ha_x5, hi_x5, hf⟩ := hf
      refine r_iald ha_x5 hi_x5 dX12_layOne_94 ?_
      generalize f_x5 ((13 + v3) : Int32).toNatClampNeg = x5 at hf ⊢
      refine r_aload_n (j := 1) rfl rfl dX12_layOne_95 ?_
      refine r_bipush (v := 7) (by decide) dX12_layOne_96 ?_
      refine r_iload_n (j := 3) rfl rfl dX12_layOne_98 ?_
      refine r_iadd (x := 7) (y := v3) dX12_layOne_99 ?_
      obtain ⟨N_x6, f_x6, ha_x6, hi_x6, hf⟩ := hf
      refine r_iald ha_x6 hi_x6 dX12_layOne_100 ?_
      generalize f_x6 ((7 + v3) : Int32).toNatClampNeg = x6 at hf ⊢
      refine r_iload (j := 5) rfl dX12_layOne_101 ?_
      refine r_iload (j := 8) rfl dX12_layOne_103 ?_
      refine r_iadd (x := v5) (y := v8) dX12_layOne_105 ?_
      refine r_imul (x := x6) (y := (v5 + v8)) dX12_layOne_106 ?_
      refine r_iadd (x := x5) (y := (x6 * (v5 + v8))) dX12_layOne_107 ?_
      refine r_iload (j := 4) rfl dX12_layOne_108 ?_
      refine r_iadd (x := (x5 + (x6 * (v5 + v8)))) (y := v4) dX12_layOne_110 ?_
      refine r_iload (j := 9) rfl dX12_layOne_111 ?_
      refine r_iadd (x := ((x5 + (x6 * (v5 + v8))) + v4)) (y := v9) dX12_layOne_113 ?_
      refine r_ishl (x := 1) (y := (((x5 + (x6 * (v5 + v8))) + v4) + v9)) dX12_layOne_114 ?_
      refine r_goto (tgt := 119) (by decide) dX12_layOne_115 ?_
      exact r_sub [0, 1, 2, 3, 4, 5, 6, 8, 9] rfl (b_X12_layOne_119 hX45 hX60 hf)
def Z_X12_layOne_60 (l : Launch) (G : GG) (d : Nat) (X45 : Nat → Nat → Int32 → Int32 → Int32 → Int32 → Int32 → Int32 → Int32 → Hp → Prop) (K : Hp → Prop) : Nat → Nat → Nat → Int32 → Int32 → Int32 → Int32 → Int32 → Int32 → Int32 → Int32 → Hp → Prop
  | 0 => fun _ _ _ _ _ _ _ _ _ _ _ => False
  | n + 1 => fun v0 v1 v2 v3 v4 v5 v6 v7 v8 v9 σ => F_X12_layOne_60 l G d X45 (Z_X12_layOne_60 l G d X45 K n) v0 v1 v2 v3 v4 v5 v6 v7 v8 v9 σ K
theorem z_X12_layOne_60 {l : Launch} {G : GG} {d : Nat} {X45 : Nat → Nat → Int32 → Int32 → Int32 → Int32 → Int32 → Int32 → Int32 → Hp → Prop} {K : Hp → Prop} (hX45 : ∀ v0 v1 v2 v3 v4 v5 v6 v7 v8 σ, X45 v0 v1 v2 v3 v4 v5 v6 v7 v8 σ → Wd l G (d + 1) "CoinsLaidModel" yX12_layOne cX12_layOne 10 none 45 [(0, aR (some v0)), (1, aR (some v1)), (2, aI v2), (3, aI v3), (4, aI v4), (5, aI v5), (6, aI v6), (7, aI v7), (8, aI v8)] [] σ 0 0 (xM (QV K))) : ∀ (n : Nat) v0 v1 v2 v3 v4 v5 v6 v7 v8 v9 σ, Z_X12_layOne_60 l G d X45 K n v0 v1 v2 v3 v4 v5 v6 v7 v8 v9 σ → Wd l G (d + 1) "CoinsLaidModel" yX12_layOne cX12_layOne 10 none 60 [(0, aR (some v0)), (1, aR (some v1)), (2, aI v2), (3, aI v3), (4, aI v4), (5, aI v5), (6, aI v6), (7, aI v7), (8, aI v8), (9, aI v9)] [] σ 0 0 (xM (QV K)) := by
  intro n
  induction n with
  | zero => intro v0 v1 v2 v3 v4 v5 v6 v7 v8 v9 σ hf; exact hf.elim
  | succ n ih => intro v0 v1 v2 v3 v4 v5 v6 v7 v8 v9 σ hf; exact b_X12_layOne_60 hX45 ih hf
def F_X12_layOne_45 (l : Launch) (G : GG) (d : Nat) (X45 : Nat → Nat → Int32 → Int32 → Int32 → Int32 → Int32 → Int32 → Int32 → Hp → Prop) (v0 : Nat) (v1 : Nat) (v2 : Int32) (v3 : Int32) (v4 : Int32) (v5 : Int32) (v6 : Int32) (v7 : Int32) (v8 : Int32) (σ : Hp) (K : Hp → Prop) : Prop :=
  C_X12_highOf l G d v1 v2 v6 σ fun r8 σ7 =>
  ((r8 : Int32) ≤ (v8 : Int32) →
    gI σ7 v1 16 fun x9 =>
    (((v7 &&& x9) : Int32) = 0 →
      fN σ7 v0 12 23 fun x10 =>
      fI σ7 v0 12 30 fun x11 =>
      sI σ7 x10 x11 v2 fun σ12 =>
      fN σ12 v0 12 24 fun x14 =>
      fI σ12 v0 12 30 fun x15 =>
      sI σ12 x14 x15 v3 fun σ16 =>
      fN σ16 v0 12 25 fun x18 =>
      fI σ16 v0 12 30 fun x19 =>
      sI σ16 x18 x19 v4 fun σ20 =>
      fN σ20 v0 12 26 fun x22 =>
      fI σ20 v0 12 30 fun x23 =>
      sI σ20 x22 x23 v5 fun σ24 =>
      fN σ24 v0 12 27 fun x26 =>
      fI σ24 v0 12 30 fun x27 =>
      sI σ24 x26 x27 v6 fun σ28 =>
      fN σ28 v0 12 28 fun x30 =>
      fI σ28 v0 12 30 fun x31 =>
      sI σ28 x30 x31 v7 fun σ32 =>
      fN σ32 v0 12 29 fun x34 =>
      fI σ32 v0 12 30 fun x35 =>
      C_X12_besides l G d v1 v3 v7 σ32 fun r37 σ36 =>
      sI σ36 x34 x35 (r37 &&& (v7 ^^^ (-1))) fun σ38 =>
      fI σ38 v0 12 30 fun x40 =>
      pF σ38 v0 12 30 (aI (x40 + 1)) fun σ41 =>
      K σ41) ∧
    (¬ ((v7 &&& x9) : Int32) = 0 →
      K σ7)) ∧
  (¬ (r8 : Int32) ≤ (v8 : Int32) →
    ∃ n, Z_X12_layOne_60 l G d X45 K n v0 v1 v2 v3 v4 v5 v6 v7 v8 0 σ7)
set_option maxRecDepth 100000 in
set_option maxHeartbeats 4000000 in
theorem b_X12_layOne_45 {l : Launch} {G : GG} {d : Nat} {X45 : Nat → Nat → Int32 → Int32 → Int32 → Int32 → Int32 → Int32 → Int32 → Hp → Prop} {v0 : Nat} {v1 : Nat} {v2 : Int32} {v3 : Int32} {v4 : Int32} {v5 : Int32} {v6 : Int32} {v7 : Int32} {v8 : Int32} {σ : Hp} {K : Hp → Prop} (hX45 : ∀ v0 v1 v2 v3 v4 v5 v6 v7 v8 σ, X45 v0 v1 v2 v3 v4 v5 v6 v7 v8 σ → Wd l G (d + 1) "CoinsLaidModel" yX12_layOne cX12_layOne 10 none 45 [(0, aR (some v0)), (1, aR (some v1)), (2, aI v2), (3, aI v3), (4, aI v4), (5, aI v5), (6, aI v6), (7, aI v7), (8, aI v8)] [] σ 0 0 (xM (QV K))) (hf : F_X12_layOne_45 l G d X45 v0 v1 v2 v3 v4 v5 v6 v7 v8 σ K) : Wd l G (d + 1) "CoinsLaidModel" yX12_layOne cX12_layOne 10 none 45 [(0, aR (some v0)), (1, aR (some v1)), (2, aI v2), (3, aI v3), (4, aI v4), (5, aI v5), (6, aI v6), (7, aI v7), (8, aI v8)] [] σ 0 0 (xM (QV K)) := by
  unfold F_X12_layOne_45 at hf
  refine r_iload (j := 8) rfl dX12_layOne_45 ?_
  refine r_aload_n (j := 1) rfl rfl dX12_layOne_47 ?_
  refine r_iload_n (j := 2) rfl rfl dX12_layOne_48 ?_
  refine r_iload (j := 6) rfl dX12_layOne_49 ?_
  try unfold C_X12_highOf at hf
  refine r_invSI (As := [aR (some v1), aI v2, aI v6]) (dz := d) (mz := 0) (sz := 0) rfl wd_7_209 wd_7_210 cf_X12_highOf (Nat.le_refl _) (Nat.zero_le _) (Nat.zero_le _) (cat_ok (Nat.le_of_ble_eq_true rfl)) dX12_layOne_51 hf (fun r8 σ7 hk => ?_)
  replace hf := hk
  clear hk
  refine r_icmpge (x := v8) (y := r8) (tgt := 134) (by decide) dX12_layOne_54 (fun hc => ?_) (fun hc => ?_)
  · replace hf := hf.1 hc
    refine r_iload (j := 7) rfl dX12_layOne_134 ?_
    refine r_aload_n (j := 1) rfl rfl dX12_layOne_136 ?_
    refine r_bipush (v := 16) (by decide) dX12_layOne_137 ?_
    obtain ⟨N_x9, f_x9, ha_x9, hi_x9, hf⟩ := hf
    refine r_iald ha_x9 hi_x9 dX12_layOne_139 ?_
    generalize f_x9 (16 : Int32).toNatClampNeg = x9 at hf ⊢
    refine r_iand (x := v7) (y := x9) dX12_layOne_140 ?_
    refine r_ifeq (x := (v7 &&& x9)) (tgt := 145) (by decide) dX12_layOne_141 (fun hc => ?_) (fun hc => ?_)
    · replace hf := hf.1 hc
      refine r_aload_n (j := 0) rfl rfl dX12_layOne_145 ?_
      obtain ⟨fs_x10, x10, ha_x10, hv_x10, hf⟩ := hf
      refine r_get (Cn := RX12) (Tt := TX12) (N := 42) (n := 23) rfl uw_X12 (Nat.le_of_ble_eq_true rfl) wd_6_209 ha_x10 hv_x10 dX12_layOne_146 ?_
      refine r_aload_n (j := 0) rfl rfl dX12_layOne_149 ?_
      obtain ⟨fs_x11, x11, ha_x11, hv_x11, hf⟩ := hf
      refine r_get (Cn := RX12) (Tt := TX12) (N := 42) (n := 30) rfl uw_X12 (Nat.le_of_ble_eq_true rfl) wd_6_216 ha_x11 hv_x11 dX12_layOne_150 ?_
      refine r_iload_n (j := 2) rfl rfl dX12_layOne_153 ?_
      obtain ⟨N_x13, f_x13, ha_x13, hi_x13, hf⟩ := hf
      generalize hσ12 : hset σ7 x10 (iA N_x13 (up_ f_x13 (x11 : Int32).toNatClampNeg v2)) = σ12 at hf
      refine r_iast (f := f_x13) (x := v2) ha_x13 hi_x13 dX12_layOne_154 ?_
      refine Eq.mpr (congrArg (fun z => Wd _ _ _ _ _ _ _ _ _ _ _ z _ _ _) hσ12) ?_
      refine r_aload_n (j := 0) rfl rfl dX12_layOne_155 ?_
      obtain ⟨fs_x14, x14, ha_x14, hv_x14, hf⟩ := hf
      refine r_get (Cn := RX12) (Tt := TX12) (N := 42) (n := 24) rfl uw_X12 (Nat.le_of_ble_eq_true rfl) wd_6_210 ha_x14 hv_x14 dX12_layOne_156 ?_
      refine r_aload_n (j := 0) rfl rfl dX12_layOne_159 ?_
      obtain ⟨fs_x15, x15, ha_x15, hv_x15, hf⟩ := hf
      refine r_get (Cn := RX12) (Tt := TX12) (N := 42) (n := 30) rfl uw_X12 (Nat.le_of_ble_eq_true rfl) wd_6_216 ha_x15 hv_x15 dX12_layOne_160 ?_
      refine r_iload_n (j := 3) rfl rfl dX12_layOne_163 ?_
      obtain ⟨N_x17, f_x17, ha_x17, hi_x17, hf⟩ := hf
      generalize hσ16 : hset σ12 x14 (iA N_x17 (up_ f_x17 (x15 : Int32).toNatClampNeg v3)) = σ16 at hf
      refine r_iast (f := f_x17) (x := v3) ha_x17 hi_x17 dX12_layOne_164 ?_
      refine Eq.mpr (congrArg (fun z => Wd _ _ _ _ _ _ _ _ _ _ _ z _ _ _) hσ16) ?_
      refine r_aload_n (j := 0) rfl rfl dX12_layOne_165 ?_
      obtain ⟨fs_x18, x18, ha_x18, hv_x18, hf⟩ := hf
      refine r_get (Cn := RX12) (Tt := TX12) (N := 42) (n := 25) rfl uw_X12 (Nat.le_of_ble_eq_true rfl) wd_6_211 ha_x18 hv_x18 dX12_layOne_166 ?_
      refine r_aload_n (j := 0) rfl rfl dX12_layOne_169 ?_
      obtain ⟨fs_x19, x19, ha_x19, hv_x19, hf⟩ := hf
      refine r_get (Cn := RX12) (Tt := TX12) (N := 42) (n := 30) rfl uw_X12 (Nat.le_of_ble_eq_true rfl) wd_6_216 ha_x19 hv_x19 dX12_layOne_170 ?_
      refine r_iload (j := 4) rfl dX12_layOne_173 ?_
      obtain ⟨N_x21, f_x21, ha_x21, hi_x21, hf⟩ := hf
      generalize hσ20 : hset σ16 x18 (iA N_x21 (up_ f_x21 (x19 : Int32).toNatClampNeg v4)) = σ20 at hf
      refine r_iast (f := f_x21) (x := v4) ha_x21 hi_x21 dX12_layOne_175 ?_
      refine Eq.mpr (congrArg (fun z => Wd _ _ _ _ _ _ _ _ _ _ _ z _ _ _) hσ20) ?_
      refine r_aload_n (j := 0) rfl rfl dX12_layOne_176 ?_
      obtain ⟨fs_x22, x22, ha_x22, hv_x22, hf⟩ := hf
      refine r_get (Cn := RX12) (Tt := TX12) (N := 42) (n := 26) rfl uw_X12 (Nat.le_of_ble_eq_true rfl) wd_6_212 ha_x22 hv_x22 dX12_layOne_177 ?_
      refine r_aload_n (j := 0) rfl rfl dX12_layOne_180 ?_
      obtain ⟨fs_x23, x23, ha_x23, hv_x23, hf⟩ := hf
      refine r_get (Cn := RX12) (Tt := TX12) (N := 42) (n := 30) rfl uw_X12 (Nat.le_of_ble_eq_true rfl) wd_6_216 ha_x23 hv_x23 dX12_layOne_181 ?_
      refine r_iload (j := 5) rfl dX12_layOne_184 ?_
      obtain ⟨N_x25, f_x25, ha_x25, hi_x25, hf⟩ := hf
      generalize hσ24 : hset σ20 x22 (iA N_x25 (up_ f_x25 (x23 : Int32).toNatClampNeg v5)) = σ24 at hf
      refine r_iast (f := f_x25) (x := v5) ha_x25 hi_x25 dX12_layOne_186 ?_
      refine Eq.mpr (congrArg (fun z => Wd _ _ _ _ _ _ _ _ _ _ _ z _ _ _) hσ24) ?_
      refine r_aload_n (j := 0) rfl rfl dX12_layOne_187 ?_
      obtain ⟨fs_x26, x26, ha_x26, hv_x26, hf⟩ := hf
      refine r_get (Cn := RX12) (Tt := TX12) (N := 42) (n := 27) rfl uw_X12 (Nat.le_of_ble_eq_true rfl) wd_6_213 ha_x26 hv_x26 dX12_layOne_188 ?_
      refine r_aload_n (j := 0) rfl rfl dX12_layOne_191 ?_
      obtain ⟨fs_x27, x27, ha_x27, hv_x27, hf⟩ := hf
      refine r_get (Cn := RX12) (Tt := TX12) (N := 42) (n := 30) rfl uw_X12 (Nat.le_of_ble_eq_true rfl) wd_6_216 ha_x27 hv_x27 dX12_layOne_192 ?_
      refine r_iload (j := 6) rfl dX12_layOne_195 ?_
      obtain ⟨N_x29, f_x29, ha_x29, hi_x29, hf⟩ := hf
      generalize hσ28 : hset σ24 x26 (iA N_x29 (up_ f_x29 (x27 : Int32).toNatClampNeg v6)) = σ28 at hf
      refine r_iast (f := f_x29) (x := v6) ha_x29 hi_x29 dX12_layOne_197 ?_
      refine Eq.mpr (congrArg (fun z => Wd _ _ _ _ _ _ _ _ _ _ _ z _ _ _) hσ28) ?_
      refine r_aload_n (j := 0) rfl rfl dX12_layOne_198 ?_
      obtain ⟨fs_x30, x30, ha_x30, hv_x30, hf⟩ := hf
      refine r_get (Cn := RX12) (Tt := TX12) (N := 42) (n := 28) rfl uw_X12 (Nat.le_of_ble_eq_true rfl) wd_6_214 ha_x30 hv_x30 dX12_layOne_199 ?_
      refine r_aload_n (j := 0) rfl rfl dX12_layOne_202 ?_
      obtain ⟨fs_x31, x31, ha_x31, hv_x31, hf⟩ := hf
      refine r_get (Cn := RX12) (Tt := TX12) (N := 42) (n := 30) rfl uw_X12 (Nat.le_of_ble_eq_true rfl) wd_6_216 ha_x31 hv_x31 dX12_layOne_203 ?_
      refine r_iload (j := 7) rfl dX12_layOne_206 ?_
      obtain ⟨N_x33, f_x33, ha_x33, hi_x33, hf⟩ := hf
      generalize hσ32 : hset σ28 x30 (iA N_x33 (up_ f_x33 (x31 : Int32).toNatClampNeg v7)) = σ32 at hf
      refine r_iast (f := f_x33) (x := v7) ha_x33 hi_x33 dX12_layOne_208 ?_
      refine Eq.mpr (congrArg (fun z => Wd _ _ _ _ _ _ _ _ _ _ _ z _ _ _) hσ32) ?_
      refine r_aload_n (j := 0) rfl rfl dX12_layOne_209 ?_
      obtain ⟨fs_x34, x34, ha_x34, hv_x34, hf⟩ := hf
      refine r_get (Cn := RX12) (Tt := TX12) (N := 42) (n := 29) rfl uw_X12 (Nat.le_of_ble_eq_true rfl) wd_6_215 ha_x34 hv_x34 dX12_layOne_210 ?_
      refine r_aload_n (j := 0) rfl rfl dX12_layOne_213 ?_
      obtain ⟨fs_x35, x35, ha_x35, hv_x35, hf⟩ := hf
      refine r_get (Cn := RX12) (Tt := TX12) (N := 42) (n := 30) rfl uw_X12 (Nat.le_of_ble_eq_true rfl) wd_6_216 ha_x35 hv_x35 dX12_layOne_214 ?_
      refine r_aload_n (j := 1) rfl rfl dX12_layOne_217 ?_
      refine r_iload_n (j := 3) rfl rfl dX12_layOne_218 ?_
      refine r_iload (j := 7) rfl dX12_layOne_219 ?_
      try unfold C_X12_besides at hf
      refine r_invSI (As := [aR (some v1), aI v3, aI v7]) (dz := d) (mz := 0) (sz := 0) rfl wd_7_219 wd_7_220 cf_X12_besides (Nat.le_refl _) (Nat.zero_le _) (Nat.zero_le _) (cat_ok (Nat.le_of_ble_eq_true rfl)) dX12_layOne_221 hf (fun r37 σ36 hk => ?_)
      replace hf := hk
      clear hk
      refine r_iload (j := 7) rfl dX12_layOne_224 ?_
      refine r_iconst (v := (-1)) (by decide) dX12_layOne_226 ?_
      refine r_ixor (x := v7) (y := (-1)) dX12_layOne_227 ?_
      refine r_iand (x := r37) (y := (v7 ^^^ (-1))) dX12_layOne_228 ?_
      obtain ⟨N_x39, f_x39, ha_x39, hi_x39, hf⟩ := hf
      generalize hσ38 : hset σ36 x34 (iA N_x39 (up_ f_x39 (x35 : Int32).toNatClampNeg (r37 &&& (v7 ^^^ (-1))))) = σ38 at hf
      refine r_iast (f := f_x39) (x := (r37 &&& (v7 ^^^ (-1)))) ha_x39 hi_x39 dX12_layOne_229 ?_
      refine Eq.mpr (congrArg (fun z => Wd _ _ _ _ _ _ _ _ _ _ _ z _ _ _) hσ38) ?_
      refine r_aload_n (j := 0) rfl rfl dX12_layOne_230 ?_
      refine r_dup rfl dX12_layOne_231 ?_
      obtain ⟨fs_x40, x40, ha_x40, hv_x40, hf⟩ := hf
      refine r_get (Cn := RX12) (Tt := TX12) (N := 42) (n := 30) rfl uw_X12 (Nat.le_of_ble_eq_true rfl) wd_6_216 ha_x40 hv_x40 dX12_layOne_232 ?_
      refine r_iconst (v := 1) (by decide) dX12_layOne_235 ?_
      refine r_iadd (x := x40) (y := 1) dX12_layOne_236 ?_
      obtain ⟨fs_x42, ha_x42, hf⟩ := hf
      generalize hσ41 : hset σ38 v0 (.inl (12, fs_x42.set 30 (aI (x40 + 1)))) = σ41 at hf
      refine r_put (Cn := RX12) (Tt := TX12) (N := 42) (n := 30) (v := aI (x40 + 1)) rfl uw_X12 (Nat.le_of_ble_eq_true rfl) wd_6_216 ha_x42 (ty0 := tyX12) tyX12_ok nmX12 rfl (fo_I (x40 + 1)) dX12_layOne_237 ?_
      rw [hσ41]
      exact r_return rfl dX12_layOne_240 rfl ⟨rfl, hf⟩
    · replace hf := hf.2 hc
      exact r_return rfl dX12_layOne_144 rfl ⟨rfl, hf⟩
  · replace hf := hf.2 hc
    refine r_iconst (v := 0) (by decide) dX12_layOne_57 ?_
    refine r_istore (L' := [(9, aI 0), (0, aR (some v0)), (1, aR (some v1)), (2, aI v2), (3, aI v3), (4, aI v4), (5, aI v5), (6, aI v6), (7, aI v7), (8, aI v8)]) rfl (Nat.le_of_ble_eq_true rfl) dX12_layOne_58 ?_
    obtain ⟨n, hf⟩ := hf
    exact r_sub [1, 2, 3, 4, 5, 6, 7, 8, 9, 0] rfl (z_X12_layOne_60 hX45 n _ _ _ _ _ _ _ _ _ _ _ hf)
def Z_X12_layOne_45 (l : Launch) (G : GG) (d : Nat) (K : Hp → Prop) : Nat → Nat → Nat → Int32 → Int32 → Int32 → Int32 → Int32 → Int32 → Int32 → Hp → Prop
  | 0 => fun _ _ _ _ _ _ _ _ _ _ => False
  | n + 1 => fun v0 v1 v2 v3 v4 v5 v6 v7 v8 σ => F_X12_layOne_45 l G d (Z_X12_layOne_45 l G d K n) v0 v1 v2 v3 v4 v5 v6 v7 v8 σ K
theorem z_X12_layOne_45 {l : Launch} {G : GG} {d : Nat} {K : Hp → Prop} : ∀ (n : Nat) v0 v1 v2 v3 v4 v5 v6 v7 v8 σ, Z_X12_layOne_45 l G d K n v0 v1 v2 v3 v4 v5 v6 v7 v8 σ → Wd l G (d + 1) "CoinsLaidModel" yX12_layOne cX12_layOne 10 none 45 [(0, aR (some v0)), (1, aR (some v1)), (2, aI v2), (3, aI v3), (4, aI v4), (5, aI v5), (6, aI v6), (7, aI v7), (8, aI v8)] [] σ 0 0 (xM (QV K)) := by
  intro n
  induction n with
  | zero => intro v0 v1 v2 v3 v4 v5 v6 v7 v8 σ hf; exact hf.elim
  | succ n ih => intro v0 v1 v2 v3 v4 v5 v6 v7 v8 σ hf; exact b_X12_layOne_45 ih hf
def F_X12_layOne (l : Launch) (G : GG) (d : Nat) (v0 : Nat) (v1 : Nat) (v2 : Int32) (v3 : Int32) (v4 : Int32) (v5 : Int32) (v6 : Int32) (σ : Hp) (K : Hp → Prop) : Prop :=
  C_X12_wideOf l G d v1 v2 v6 σ fun r44 σ43 =>
  gI σ43 v1 (7 + v3) fun x45 =>
  ((x45 : Int32) < ((v4 + r44) : Int32) →
    F_X12_layOne_38 l G d σ43 K) ∧
  (¬ (x45 : Int32) < ((v4 + r44) : Int32) →
    C_X12_highOf l G d v1 v2 v6 σ43 fun r47 σ46 =>
    gI σ46 v1 (10 + v3) fun x48 =>
    (((v5 + r47) : Int32) ≤ (x48 : Int32) →
      ∃ n, Z_X12_layOne_45 l G d K n v0 v1 v2 v3 v4 v5 v6 0 0 σ46) ∧
    (¬ ((v5 + r47) : Int32) ≤ (x48 : Int32) →
      F_X12_layOne_38 l G d σ46 K))
set_option maxRecDepth 100000 in
set_option maxHeartbeats 4000000 in
theorem b_X12_layOne_0 {l : Launch} {G : GG} {d : Nat} {v0 : Nat} {v1 : Nat} {v2 : Int32} {v3 : Int32} {v4 : Int32} {v5 : Int32} {v6 : Int32} {σ : Hp} {K : Hp → Prop} (hf : F_X12_layOne l G d v0 v1 v2 v3 v4 v5 v6 σ K) : Wd l G (d + 1) "CoinsLaidModel" yX12_layOne cX12_layOne 10 none 0 [(0, aR (some v0)), (1, aR (some v1)), (2, aI v2), (3, aI v3), (4, aI v4), (5, aI v5), (6, aI v6)] [] σ 0 0 (xM (QV K)) := by
  unfold F_X12_layOne at hf
  refine r_iload (j := 4) rfl dX12_layOne_0 ?_
  refine r_aload_n (j := 1) rfl rfl dX12_layOne_2 ?_
  refine r_iload_n (j := 2) rfl rfl dX12_layOne_3 ?_
  refine r_iload (j := 6) rfl dX12_layOne_4 ?_
  try unfold C_X12_wideOf at hf
  refine r_invSI (As := [aR (some v1), aI v2, aI v6]) (dz := d) (mz := 0) (sz := 0) rfl wd_7_206 wd_7_207 cf_X12_wideOf (Nat.le_refl _) (Nat.zero_le _) (Nat.zero_le _) (cat_ok (Nat.le_of_ble_eq_true rfl)) dX12_layOne_6 hf (fun r44 σ43 hk => ?_)
  replace hf := hk
  clear hk
  refine r_iadd (x := v4) (y := r44) dX12_layOne_9 ?_
  refine r_aload_n (j := 1) rfl rfl dX12_layOne_10 ?_
  refine r_bipush (v := 7) (by decide) dX12_layOne_11 ?_
  refine r_iload_n (j := 3) rfl rfl dX12_layOne_13 ?_
  refine r_iadd (x := 7) (y := v3) dX12_layOne_14 ?_
  obtain ⟨N_x45, f_x45, ha_x45, hi_x45, hf⟩ := hf
  refine r_iald ha_x45 hi_x45 dX12_layOne_15 ?_
  generalize f_x45 ((7 + v3) : Int32).toNatClampNeg = x45 at hf ⊢
  refine r_icmpgt (x := (v4 + r44)) (y := x45) (tgt := 38) (by decide) dX12_layOne_16 (fun hc => ?_) (fun hc => ?_)
  · replace hf := hf.1 hc
    exact r_sub [] rfl (b_X12_layOne_38 hf)
  · replace hf := hf.2 hc
    refine r_iload (j := 5) rfl dX12_layOne_19 ?_
    refine r_aload_n (j := 1) rfl rfl dX12_layOne_21 ?_
    refine r_iload_n (j := 2) rfl rfl dX12_layOne_22 ?_
    refine r_iload (j := 6) rfl dX12_layOne_23 ?_
    try unfold C_X12_highOf at hf
    refine r_invSI (As := [aR (some v1), aI v2, aI v6]) (dz := d) (mz := 0) (sz := 0) rfl wd_7_209 wd_7_210 cf_X12_highOf (Nat.le_refl _) (Nat.zero_le _) (Nat.zero_le _) (cat_ok (Nat.le_of_ble_eq_true rfl)) dX12_layOne_25 hf (fun r47 σ46 hk => ?_)
    replace hf := hk
    clear hk
    refine r_iadd (x := v5) (y := r47) dX12_layOne_28 ?_
    refine r_aload_n (j := 1) rfl rfl dX12_layOne_29 ?_
    refine r_bipush (v := 10) (by decide) dX12_layOne_30 ?_
    refine r_iload_n (j := 3) rfl rfl dX12_layOne_32 ?_
    refine r_iadd (x := 10) (y := v3) dX12_layOne_33 ?_
    obtain ⟨N_x48, f_x48, ha_x48, hi_x48, hf⟩ := hf
    refine r_iald ha_x48 hi_x48 dX12_layOne_34 ?_
    generalize f_x48 ((10 + v3) : Int32).toNatClampNeg = x48 at hf ⊢
    refine r_icmple (x := (v5 + r47)) (y := x48) (tgt := 39) (by decide) dX12_layOne_35 (fun hc => ?_) (fun hc => ?_)
    · replace hf := hf.1 hc
      refine r_iconst (v := 0) (by decide) dX12_layOne_39 ?_
      refine r_istore (L' := [(7, aI 0), (0, aR (some v0)), (1, aR (some v1)), (2, aI v2), (3, aI v3), (4, aI v4), (5, aI v5), (6, aI v6)]) rfl (Nat.le_of_ble_eq_true rfl) dX12_layOne_40 ?_
      refine r_iconst (v := 0) (by decide) dX12_layOne_42 ?_
      refine r_istore (L' := [(8, aI 0), (7, aI 0), (0, aR (some v0)), (1, aR (some v1)), (2, aI v2), (3, aI v3), (4, aI v4), (5, aI v5), (6, aI v6)]) rfl (Nat.le_of_ble_eq_true rfl) dX12_layOne_43 ?_
      obtain ⟨n, hf⟩ := hf
      exact r_sub [2, 3, 4, 5, 6, 7, 8, 1, 0] rfl (z_X12_layOne_45 n _ _ _ _ _ _ _ _ _ _ hf)
    · replace hf := hf.2 hc
      exact r_sub [] rfl (b_X12_layOne_38 hf)
theorem m_X12_layOne {l : Launch} {G : GG} {d : Nat} {v0 : Nat} {v1 : Nat} {v2 : Int32} {v3 : Int32} {v4 : Int32} {v5 : Int32} {v6 : Int32} {σ : Hp} {K : Hp → Prop} (hr : rv σ v0 12) (hf : F_X12_layOne l G d v0 v1 v2 v3 v4 v5 v6 σ K) : C_X12_layOne l G (d + 1) v0 v1 v2 v3 v4 v5 v6 σ K := ⟨hr, Sp.of (by decide) (Nat.le_of_ble_eq_true rfl) (b_X12_layOne_0 hf) rfl⟩
def F_X12_besides_169 (l : Launch) (G : GG) (d : Nat) (X23 : Nat → Int32 → Int32 → Int32 → Int32 → Int32 → Int32 → Hp → Prop) (v0 : Nat) (v1 : Int32) (v2 : Int32) (v3 : Int32) (v4 : Int32) (v5 : Int32) (v6 : Int32) (σ : Hp) (K : Int32 → Hp → Prop) : Prop :=
  X23 v0 v1 v2 v3 v4 v5 (v6 + 1) σ
set_option maxRecDepth 100000 in
set_option maxHeartbeats 4000000 in
theorem b_X12_besides_169 {l : Launch} {G : GG} {d : Nat} {X23 : Nat → Int32 → Int32 → Int32 → Int32 → Int32 → Int32 → Hp → Prop} {v0 : Nat} {v1 : Int32} {v2 : Int32} {v3 : Int32} {v4 : Int32} {v5 : Int32} {v6 : Int32} {σ : Hp} {K : Int32 → Hp → Prop} (hX23 : ∀ v0 v1 v2 v3 v4 v5 v6 σ, X23 v0 v1 v2 v3 v4 v5 v6 σ → Wd l G (d + 1) "CoinsLaidModel" yX12_besides cX12_besides 7 (some FieldType.int) 23 [(0, aR (some v0)), (1, aI v1), (2, aI v2), (3, aI v3), (4, aI v4), (5, aI v5), (6, aI v6)] [] σ 0 0 (xM (QI K))) (hf : F_X12_besides_169 l G d X23 v0 v1 v2 v3 v4 v5 v6 σ K) : Wd l G (d + 1) "CoinsLaidModel" yX12_besides cX12_besides 7 (some FieldType.int) 169 [(0, aR (some v0)), (1, aI v1), (2, aI v2), (3, aI v3), (4, aI v4), (5, aI v5), (6, aI v6)] [] σ 0 0 (xM (QI K)) := by
  unfold F_X12_besides_169 at hf
  refine r_iinc (j := 6) (w := (v6 + 1)) (L' := [(6, aI (v6 + 1)), (0, aR (some v0)), (1, aI v1), (2, aI v2), (3, aI v3), (4, aI v4), (5, aI v5)]) rfl (by rfl) rfl (Nat.le_of_ble_eq_true rfl) dX12_besides_169 ?_
  refine r_goto (tgt := 23) (by decide) dX12_besides_172 ?_
  exact r_sub [1, 2, 3, 4, 5, 6, 0] rfl (hX23 _ _ _ _ _ _ _ _ hf)
def F_X12_besides_166 (l : Launch) (G : GG) (d : Nat) (X23 : Nat → Int32 → Int32 → Int32 → Int32 → Int32 → Int32 → Hp → Prop) (v0 : Nat) (v1 : Int32) (v2 : Int32) (v3 : Int32) (v4 : Int32) (v6 : Int32) (s0 : Int32) (s1 : Int32) (σ : Hp) (K : Int32 → Hp → Prop) : Prop :=
  F_X12_besides_169 l G d X23 v0 v1 v2 v3 v4 (s0 ||| s1) v6 σ K
set_option maxRecDepth 100000 in
set_option maxHeartbeats 4000000 in
theorem b_X12_besides_166 {l : Launch} {G : GG} {d : Nat} {X23 : Nat → Int32 → Int32 → Int32 → Int32 → Int32 → Int32 → Hp → Prop} {v0 : Nat} {v1 : Int32} {v2 : Int32} {v3 : Int32} {v4 : Int32} {v6 : Int32} {s0 : Int32} {s1 : Int32} {σ : Hp} {K : Int32 → Hp → Prop} (hX23 : ∀ v0 v1 v2 v3 v4 v5 v6 σ, X23 v0 v1 v2 v3 v4 v5 v6 σ → Wd l G (d + 1) "CoinsLaidModel" yX12_besides cX12_besides 7 (some FieldType.int) 23 [(0, aR (some v0)), (1, aI v1), (2, aI v2), (3, aI v3), (4, aI v4), (5, aI v5), (6, aI v6)] [] σ 0 0 (xM (QI K))) (hf : F_X12_besides_166 l G d X23 v0 v1 v2 v3 v4 v6 s0 s1 σ K) : Wd l G (d + 1) "CoinsLaidModel" yX12_besides cX12_besides 7 (some FieldType.int) 166 [(0, aR (some v0)), (1, aI v1), (2, aI v2), (3, aI v3), (4, aI v4), (6, aI v6)] [aI s1, aI s0] σ 0 0 (xM (QI K)) := by
  unfold F_X12_besides_166 at hf
  refine r_ior (x := s0) (y := s1) dX12_besides_166 ?_
  refine r_istore (L' := [(5, aI (s0 ||| s1)), (0, aR (some v0)), (1, aI v1), (2, aI v2), (3, aI v3), (4, aI v4), (6, aI v6)]) rfl (Nat.le_of_ble_eq_true rfl) dX12_besides_167 ?_
  exact r_sub [1, 2, 3, 4, 5, 0, 6] rfl (b_X12_besides_169 hX23 hf)
def F_X12_besides_135 (l : Launch) (G : GG) (d : Nat) (X23 : Nat → Int32 → Int32 → Int32 → Int32 → Int32 → Int32 → Hp → Prop) (v0 : Nat) (v1 : Int32) (v2 : Int32) (v3 : Int32) (v4 : Int32) (v6 : Int32) (s0 : Int32) (s1 : Int32) (σ : Hp) (K : Int32 → Hp → Prop) : Prop :=
  ((v4 : Int32) ≤ ((v6 + v3) : Int32) →
    F_X12_besides_166 l G d X23 v0 v1 v2 v3 v4 v6 (s0 ||| s1) 0 σ K) ∧
  (¬ (v4 : Int32) ≤ ((v6 + v3) : Int32) →
    gI σ v0 (13 + v1) fun x1 =>
    F_X12_besides_166 l G d X23 v0 v1 v2 v3 v4 v6 (s0 ||| s1) (1 <<< (((x1 + v6) + v3) &&& 31)) σ K)
set_option maxRecDepth 100000 in
set_option maxHeartbeats 4000000 in
theorem b_X12_besides_135 {l : Launch} {G : GG} {d : Nat} {X23 : Nat → Int32 → Int32 → Int32 → Int32 → Int32 → Int32 → Hp → Prop} {v0 : Nat} {v1 : Int32} {v2 : Int32} {v3 : Int32} {v4 : Int32} {v6 : Int32} {s0 : Int32} {s1 : Int32} {σ : Hp} {K : Int32 → Hp → Prop} (hX23 : ∀ v0 v1 v2 v3 v4 v5 v6 σ, X23 v0 v1 v2 v3 v4 v5 v6 σ → Wd l G (d + 1) "CoinsLaidModel" yX12_besides cX12_besides 7 (some FieldType.int) 23 [(0, aR (some v0)), (1, aI v1), (2, aI v2), (3, aI v3), (4, aI v4), (5, aI v5), (6, aI v6)] [] σ 0 0 (xM (QI K))) (hf : F_X12_besides_135 l G d X23 v0 v1 v2 v3 v4 v6 s0 s1 σ K) : Wd l G (d + 1) "CoinsLaidModel" yX12_besides cX12_besides 7 (some FieldType.int) 135 [(0, aR (some v0)), (1, aI v1), (2, aI v2), (3, aI v3), (4, aI v4), (6, aI v6)] [aI s1, aI s0] σ 0 0 (xM (QI K)) := by
  unfold F_X12_besides_135 at hf
  refine r_ior (x := s0) (y := s1) dX12_besides_135 ?_
  refine r_istore (L' := [(5, aI (s0 ||| s1)), (0, aR (some v0)), (1, aI v1), (2, aI v2), (3, aI v3), (4, aI v4), (6, aI v6)]) rfl (Nat.le_of_ble_eq_true rfl) dX12_besides_136 ?_
  refine r_iload (j := 0) rfl dX12_besides_138 ?_
  refine r_iload (j := 6) rfl dX12_besides_140 ?_
  refine r_iload_n (j := 4) rfl rfl dX12_besides_142 ?_
  refine r_iadd (x := v6) (y := v3) dX12_besides_143 ?_
  refine r_iload (j := 5) rfl dX12_besides_144 ?_
  refine r_icmpge (x := (v6 + v3)) (y := v4) (tgt := 165) (by decide) dX12_besides_146 (fun hc => ?_) (fun hc => ?_)
  · replace hf := hf.1 hc
    refine r_iconst (v := 0) (by decide) dX12_besides_165 ?_
    exact r_sub [1, 2, 3, 4, 5, 6] rfl (b_X12_besides_166 hX23 hf)
  · replace hf := hf.2 hc
    refine r_iconst (v := 1) (by decide) dX12_besides_149 ?_
    refine r_aload_n (j := 1) rfl rfl dX12_besides_150 ?_
    refine r_bipush (v := 13) (by decide) dX12_besides_151 ?_
    refine r_iload_n (j := 2) rfl rfl dX12_besides_153 ?_
    refine r_iadd (x := 13) (y := v1) dX12_besides_154 ?_
    obtain ⟨N_x1, f_x1, ha_x1, hi_x1, hf⟩ := hf
    refine r_iald ha_x1 hi_x1 dX12_besides_155 ?_
    generalize f_x1 ((13 + v1) : Int32).toNatClampNeg = x1 at hf ⊢
    refine r_iload (j := 6) rfl dX12_besides_156 ?_
    refine r_iadd (x := x1) (y := v6) dX12_besides_158 ?_
    refine r_iload_n (j := 4) rfl rfl dX12_besides_159 ?_
    refine r_iadd (x := (x1 + v6)) (y := v3) dX12_besides_160 ?_
    refine r_ishl (x := 1) (y := ((x1 + v6) + v3)) dX12_besides_161 ?_
    refine r_goto (tgt := 166) (by decide) dX12_besides_162 ?_
    exact r_sub [1, 2, 3, 4, 5, 6] rfl (b_X12_besides_166 hX23 hf)
def F_X12_besides_107 (l : Launch) (G : GG) (d : Nat) (X23 : Nat → Int32 → Int32 → Int32 → Int32 → Int32 → Int32 → Hp → Prop) (v0 : Nat) (v1 : Int32) (v2 : Int32) (v3 : Int32) (v4 : Int32) (v6 : Int32) (s0 : Int32) (s1 : Int32) (σ : Hp) (K : Int32 → Hp → Prop) : Prop :=
  ((v6 : Int32) < (v3 : Int32) →
    F_X12_besides_135 l G d X23 v0 v1 v2 v3 v4 v6 (s0 ||| s1) 0 σ K) ∧
  (¬ (v6 : Int32) < (v3 : Int32) →
    gI σ v0 (13 + v1) fun x2 =>
    F_X12_besides_135 l G d X23 v0 v1 v2 v3 v4 v6 (s0 ||| s1) (1 <<< (((x2 + v6) - v3) &&& 31)) σ K)
set_option maxRecDepth 100000 in
set_option maxHeartbeats 4000000 in
theorem b_X12_besides_107 {l : Launch} {G : GG} {d : Nat} {X23 : Nat → Int32 → Int32 → Int32 → Int32 → Int32 → Int32 → Hp → Prop} {v0 : Nat} {v1 : Int32} {v2 : Int32} {v3 : Int32} {v4 : Int32} {v6 : Int32} {s0 : Int32} {s1 : Int32} {σ : Hp} {K : Int32 → Hp → Prop} (hX23 : ∀ v0 v1 v2 v3 v4 v5 v6 σ, X23 v0 v1 v2 v3 v4 v5 v6 σ → Wd l G (d + 1) "CoinsLaidModel" yX12_besides cX12_besides 7 (some FieldType.int) 23 [(0, aR (some v0)), (1, aI v1), (2, aI v2), (3, aI v3), (4, aI v4), (5, aI v5), (6, aI v6)] [] σ 0 0 (xM (QI K))) (hf : F_X12_besides_107 l G d X23 v0 v1 v2 v3 v4 v6 s0 s1 σ K) : Wd l G (d + 1) "CoinsLaidModel" yX12_besides cX12_besides 7 (some FieldType.int) 107 [(0, aR (some v0)), (1, aI v1), (2, aI v2), (3, aI v3), (4, aI v4), (6, aI v6)] [aI s1, aI s0] σ 0 0 (xM (QI K)) := by
  unfold F_X12_besides_107 at hf
  refine r_ior (x := s0) (y := s1) dX12_besides_107 ?_
  refine r_istore (L' := [(5, aI (s0 ||| s1)), (0, aR (some v0)), (1, aI v1), (2, aI v2), (3, aI v3), (4, aI v4), (6, aI v6)]) rfl (Nat.le_of_ble_eq_true rfl) dX12_besides_108 ?_
  refine r_iload (j := 0) rfl dX12_besides_110 ?_
  refine r_iload (j := 6) rfl dX12_besides_112 ?_
  refine r_iload_n (j := 4) rfl rfl dX12_besides_114 ?_
  refine r_icmplt (x := v6) (y := v3) (tgt := 134) (by decide) dX12_besides_115 (fun hc => ?_) (fun hc => ?_)
  · replace hf := hf.1 hc
    refine r_iconst (v := 0) (by decide) dX12_besides_134 ?_
    exact r_sub [1, 2, 3, 4, 5, 6] rfl (b_X12_besides_135 hX23 hf)
  · replace hf := hf.2 hc
    refine r_iconst (v := 1) (by decide) dX12_besides_118 ?_
    refine r_aload_n (j := 1) rfl rfl dX12_besides_119 ?_
    refine r_bipush (v := 13) (by decide) dX12_besides_120 ?_
    refine r_iload_n (j := 2) rfl rfl dX12_besides_122 ?_
    refine r_iadd (x := 13) (y := v1) dX12_besides_123 ?_
    obtain ⟨N_x2, f_x2, ha_x2, hi_x2, hf⟩ := hf
    refine r_iald ha_x2 hi_x2 dX12_besides_124 ?_
    generalize f_x2 ((13 + v1) : Int32).toNatClampNeg = x2 at hf ⊢
    refine r_iload (j := 6) rfl dX12_besides_125 ?_
    refine r_iadd (x := x2) (y := v6) dX12_besides_127 ?_
    refine r_iload_n (j := 4) rfl rfl dX12_besides_128 ?_
    refine r_isub (x := (x2 + v6)) (y := v3) dX12_besides_129 ?_
    refine r_ishl (x := 1) (y := ((x2 + v6) - v3)) dX12_besides_130 ?_
    refine r_goto (tgt := 135) (by decide) dX12_besides_131 ?_
    exact r_sub [1, 2, 3, 4, 5, 6] rfl (b_X12_besides_135 hX23 hf)
def F_X12_besides_75 (l : Launch) (G : GG) (d : Nat) (X23 : Nat → Int32 → Int32 → Int32 → Int32 → Int32 → Int32 → Hp → Prop) (v0 : Nat) (v1 : Int32) (v2 : Int32) (v3 : Int32) (v4 : Int32) (v6 : Int32) (s0 : Int32) (s1 : Int32) (σ : Hp) (K : Int32 → Hp → Prop) : Prop :=
  ¬ (v3 : Int32) = 0 ∧
  (((v3 - 1) : Int32) ≤ ((v6 - v6 / v3 * v3) : Int32) →
    F_X12_besides_107 l G d X23 v0 v1 v2 v3 v4 v6 (s0 ||| s1) 0 σ K) ∧
  (¬ ((v3 - 1) : Int32) ≤ ((v6 - v6 / v3 * v3) : Int32) →
    gI σ v0 (13 + v1) fun x3 =>
    F_X12_besides_107 l G d X23 v0 v1 v2 v3 v4 v6 (s0 ||| s1) (1 <<< (((x3 + v6) + 1) &&& 31)) σ K)
set_option maxRecDepth 100000 in
set_option maxHeartbeats 4000000 in
theorem b_X12_besides_75 {l : Launch} {G : GG} {d : Nat} {X23 : Nat → Int32 → Int32 → Int32 → Int32 → Int32 → Int32 → Hp → Prop} {v0 : Nat} {v1 : Int32} {v2 : Int32} {v3 : Int32} {v4 : Int32} {v6 : Int32} {s0 : Int32} {s1 : Int32} {σ : Hp} {K : Int32 → Hp → Prop} (hX23 : ∀ v0 v1 v2 v3 v4 v5 v6 σ, X23 v0 v1 v2 v3 v4 v5 v6 σ → Wd l G (d + 1) "CoinsLaidModel" yX12_besides cX12_besides 7 (some FieldType.int) 23 [(0, aR (some v0)), (1, aI v1), (2, aI v2), (3, aI v3), (4, aI v4), (5, aI v5), (6, aI v6)] [] σ 0 0 (xM (QI K))) (hf : F_X12_besides_75 l G d X23 v0 v1 v2 v3 v4 v6 s0 s1 σ K) : Wd l G (d + 1) "CoinsLaidModel" yX12_besides cX12_besides 7 (some FieldType.int) 75 [(0, aR (some v0)), (1, aI v1), (2, aI v2), (3, aI v3), (4, aI v4), (6, aI v6)] [aI s1, aI s0] σ 0 0 (xM (QI K)) := by
  unfold F_X12_besides_75 at hf
  refine r_ior (x := s0) (y := s1) dX12_besides_75 ?_
  refine r_istore (L' := [(5, aI (s0 ||| s1)), (0, aR (some v0)), (1, aI v1), (2, aI v2), (3, aI v3), (4, aI v4), (6, aI v6)]) rfl (Nat.le_of_ble_eq_true rfl) dX12_besides_76 ?_
  refine r_iload (j := 0) rfl dX12_besides_78 ?_
  refine r_iload (j := 6) rfl dX12_besides_80 ?_
  refine r_iload_n (j := 4) rfl rfl dX12_besides_82 ?_
  obtain ⟨hne, hf⟩ := hf
  refine r_irem hne dX12_besides_83 ?_
  refine r_iload_n (j := 4) rfl rfl dX12_besides_84 ?_
  refine r_iconst (v := 1) (by decide) dX12_besides_85 ?_
  refine r_isub (x := v3) (y := 1) dX12_besides_86 ?_
  refine r_icmpge (x := (v6 - v6 / v3 * v3)) (y := (v3 - 1)) (tgt := 106) (by decide) dX12_besides_87 (fun hc => ?_) (fun hc => ?_)
  · replace hf := hf.1 hc
    refine r_iconst (v := 0) (by decide) dX12_besides_106 ?_
    exact r_sub [1, 2, 3, 4, 5, 6] rfl (b_X12_besides_107 hX23 hf)
  · replace hf := hf.2 hc
    refine r_iconst (v := 1) (by decide) dX12_besides_90 ?_
    refine r_aload_n (j := 1) rfl rfl dX12_besides_91 ?_
    refine r_bipush (v := 13) (by decide) dX12_besides_92 ?_
    refine r_iload_n (j := 2) rfl rfl dX12_besides_94 ?_
    refine r_iadd (x := 13) (y := v1) dX12_besides_95 ?_
    obtain ⟨N_x3, f_x3, ha_x3, hi_x3, hf⟩ := hf
    refine r_iald ha_x3 hi_x3 dX12_besides_96 ?_
    generalize f_x3 ((13 + v1) : Int32).toNatClampNeg = x3 at hf ⊢
    refine r_iload (j := 6) rfl dX12_besides_97 ?_
    refine r_iadd (x := x3) (y := v6) dX12_besides_99 ?_
    refine r_iconst (v := 1) (by decide) dX12_besides_100 ?_
    refine r_iadd (x := (x3 + v6)) (y := 1) dX12_besides_101 ?_
    refine r_ishl (x := 1) (y := ((x3 + v6) + 1)) dX12_besides_102 ?_
    refine r_goto (tgt := 107) (by decide) dX12_besides_103 ?_
    exact r_sub [1, 2, 3, 4, 5, 6] rfl (b_X12_besides_107 hX23 hf)
def F_X12_besides_23 (l : Launch) (G : GG) (d : Nat) (X23 : Nat → Int32 → Int32 → Int32 → Int32 → Int32 → Int32 → Hp → Prop) (v0 : Nat) (v1 : Int32) (v2 : Int32) (v3 : Int32) (v4 : Int32) (v5 : Int32) (v6 : Int32) (σ : Hp) (K : Int32 → Hp → Prop) : Prop :=
  ((v4 : Int32) ≤ (v6 : Int32) →
    K v5 σ) ∧
  (¬ (v4 : Int32) ≤ (v6 : Int32) →
    gI σ v0 (13 + v1) fun x4 =>
    C_X12_hasBit l G d v2 (x4 + v6) σ fun r6 σ5 =>
    (r6 = true →
      ¬ (v3 : Int32) = 0 ∧
      (((v6 - v6 / v3 * v3) : Int32) ≤ 0 →
        F_X12_besides_75 l G d X23 v0 v1 v2 v3 v4 v6 v5 0 σ5 K) ∧
      (¬ ((v6 - v6 / v3 * v3) : Int32) ≤ 0 →
        gI σ5 v0 (13 + v1) fun x7 =>
        F_X12_besides_75 l G d X23 v0 v1 v2 v3 v4 v6 v5 (1 <<< (((x7 + v6) - 1) &&& 31)) σ5 K)) ∧
    (r6 = false →
      F_X12_besides_169 l G d X23 v0 v1 v2 v3 v4 v5 v6 σ5 K))
set_option maxRecDepth 100000 in
set_option maxHeartbeats 4000000 in
theorem b_X12_besides_23 {l : Launch} {G : GG} {d : Nat} {X23 : Nat → Int32 → Int32 → Int32 → Int32 → Int32 → Int32 → Hp → Prop} {v0 : Nat} {v1 : Int32} {v2 : Int32} {v3 : Int32} {v4 : Int32} {v5 : Int32} {v6 : Int32} {σ : Hp} {K : Int32 → Hp → Prop} (hX23 : ∀ v0 v1 v2 v3 v4 v5 v6 σ, X23 v0 v1 v2 v3 v4 v5 v6 σ → Wd l G (d + 1) "CoinsLaidModel" yX12_besides cX12_besides 7 (some FieldType.int) 23 [(0, aR (some v0)), (1, aI v1), (2, aI v2), (3, aI v3), (4, aI v4), (5, aI v5), (6, aI v6)] [] σ 0 0 (xM (QI K))) (hf : F_X12_besides_23 l G d X23 v0 v1 v2 v3 v4 v5 v6 σ K) : Wd l G (d + 1) "CoinsLaidModel" yX12_besides cX12_besides 7 (some FieldType.int) 23 [(0, aR (some v0)), (1, aI v1), (2, aI v2), (3, aI v3), (4, aI v4), (5, aI v5), (6, aI v6)] [] σ 0 0 (xM (QI K)) := by
  unfold F_X12_besides_23 at hf
  refine r_iload (j := 6) rfl dX12_besides_23 ?_
  refine r_iload (j := 4) rfl dX12_besides_25 ?_
  refine r_icmpge (x := v6) (y := v4) (tgt := 175) (by decide) dX12_besides_27 (fun hc => ?_) (fun hc => ?_)
  · replace hf := hf.1 hc
    refine r_iload (j := 5) rfl dX12_besides_175 ?_
    exact r_ireturn rfl dX12_besides_177 rfl ⟨_, rfl, hf⟩
  · replace hf := hf.2 hc
    refine r_iload_n (j := 2) rfl rfl dX12_besides_30 ?_
    refine r_aload_n (j := 0) rfl rfl dX12_besides_31 ?_
    refine r_bipush (v := 13) (by decide) dX12_besides_32 ?_
    refine r_iload_n (j := 1) rfl rfl dX12_besides_34 ?_
    refine r_iadd (x := 13) (y := v1) dX12_besides_35 ?_
    obtain ⟨N_x4, f_x4, ha_x4, hi_x4, hf⟩ := hf
    refine r_iald ha_x4 hi_x4 dX12_besides_36 ?_
    generalize f_x4 ((13 + v1) : Int32).toNatClampNeg = x4 at hf ⊢
    refine r_iload (j := 6) rfl dX12_besides_37 ?_
    refine r_iadd (x := x4) (y := v6) dX12_besides_39 ?_
    try unfold C_X12_hasBit at hf
    refine r_invSZ (As := [aI v2, aI (x4 + v6)]) (dz := d) (mz := 0) (sz := 0) rfl wd_7_182 wd_7_183 cf_X12_hasBit (Nat.le_refl _) (Nat.zero_le _) (Nat.zero_le _) (cat_ok (Nat.le_of_ble_eq_true rfl)) dX12_besides_40 hf (fun r6 σ5 hk => ?_)
    replace hf := hk
    clear hk
    refine r_ifneZ (b := r6) (tgt := 49) (by decide) dX12_besides_43 (fun hc => ?_) (fun hc => ?_)
    · replace hf := hf.1 hc
      refine r_iload (j := 5) rfl dX12_besides_49 ?_
      refine r_iload (j := 6) rfl dX12_besides_51 ?_
      refine r_iload_n (j := 3) rfl rfl dX12_besides_53 ?_
      obtain ⟨hne, hf⟩ := hf
      refine r_irem hne dX12_besides_54 ?_
      refine r_ifle (x := (v6 - v6 / v3 * v3)) (tgt := 74) (by decide) dX12_besides_55 (fun hc => ?_) (fun hc => ?_)
      · replace hf := hf.1 hc
        refine r_iconst (v := 0) (by decide) dX12_besides_74 ?_
        exact r_sub [0, 1, 2, 3, 4, 6] rfl (b_X12_besides_75 hX23 hf)
      · replace hf := hf.2 hc
        refine r_iconst (v := 1) (by decide) dX12_besides_58 ?_
        refine r_aload_n (j := 0) rfl rfl dX12_besides_59 ?_
        refine r_bipush (v := 13) (by decide) dX12_besides_60 ?_
        refine r_iload_n (j := 1) rfl rfl dX12_besides_62 ?_
        refine r_iadd (x := 13) (y := v1) dX12_besides_63 ?_
        obtain ⟨N_x7, f_x7, ha_x7, hi_x7, hf⟩ := hf
        refine r_iald ha_x7 hi_x7 dX12_besides_64 ?_
        generalize f_x7 ((13 + v1) : Int32).toNatClampNeg = x7 at hf ⊢
        refine r_iload (j := 6) rfl dX12_besides_65 ?_
        refine r_iadd (x := x7) (y := v6) dX12_besides_67 ?_
        refine r_iconst (v := 1) (by decide) dX12_besides_68 ?_
        refine r_isub (x := (x7 + v6)) (y := 1) dX12_besides_69 ?_
        refine r_ishl (x := 1) (y := ((x7 + v6) - 1)) dX12_besides_70 ?_
        refine r_goto (tgt := 75) (by decide) dX12_besides_71 ?_
        exact r_sub [0, 1, 2, 3, 4, 6] rfl (b_X12_besides_75 hX23 hf)
    · replace hf := hf.2 hc
      refine r_goto (tgt := 169) (by decide) dX12_besides_46 ?_
      exact r_sub [0, 1, 2, 3, 4, 5, 6] rfl (b_X12_besides_169 hX23 hf)
def Z_X12_besides_23 (l : Launch) (G : GG) (d : Nat) (K : Int32 → Hp → Prop) : Nat → Nat → Int32 → Int32 → Int32 → Int32 → Int32 → Int32 → Hp → Prop
  | 0 => fun _ _ _ _ _ _ _ _ => False
  | n + 1 => fun v0 v1 v2 v3 v4 v5 v6 σ => F_X12_besides_23 l G d (Z_X12_besides_23 l G d K n) v0 v1 v2 v3 v4 v5 v6 σ K
theorem z_X12_besides_23 {l : Launch} {G : GG} {d : Nat} {K : Int32 → Hp → Prop} : ∀ (n : Nat) v0 v1 v2 v3 v4 v5 v6 σ, Z_X12_besides_23 l G d K n v0 v1 v2 v3 v4 v5 v6 σ → Wd l G (d + 1) "CoinsLaidModel" yX12_besides cX12_besides 7 (some FieldType.int) 23 [(0, aR (some v0)), (1, aI v1), (2, aI v2), (3, aI v3), (4, aI v4), (5, aI v5), (6, aI v6)] [] σ 0 0 (xM (QI K)) := by
  intro n
  induction n with
  | zero => intro v0 v1 v2 v3 v4 v5 v6 σ hf; exact hf.elim
  | succ n ih => intro v0 v1 v2 v3 v4 v5 v6 σ hf; exact b_X12_besides_23 ih hf
def F_X12_besides (l : Launch) (G : GG) (d : Nat) (v0 : Nat) (v1 : Int32) (v2 : Int32) (σ : Hp) (K : Int32 → Hp → Prop) : Prop :=
  gI σ v0 (7 + v1) fun x8 =>
  gI σ v0 (10 + v1) fun x9 =>
  ∃ n, Z_X12_besides_23 l G d K n v0 v1 v2 x8 (x8 * x9) 0 0 σ
set_option maxRecDepth 100000 in
set_option maxHeartbeats 4000000 in
theorem b_X12_besides_0 {l : Launch} {G : GG} {d : Nat} {v0 : Nat} {v1 : Int32} {v2 : Int32} {σ : Hp} {K : Int32 → Hp → Prop} (hf : F_X12_besides l G d v0 v1 v2 σ K) : Wd l G (d + 1) "CoinsLaidModel" yX12_besides cX12_besides 7 (some FieldType.int) 0 [(0, aR (some v0)), (1, aI v1), (2, aI v2)] [] σ 0 0 (xM (QI K)) := by
  unfold F_X12_besides at hf
  refine r_aload_n (j := 0) rfl rfl dX12_besides_0 ?_
  refine r_bipush (v := 7) (by decide) dX12_besides_1 ?_
  refine r_iload_n (j := 1) rfl rfl dX12_besides_3 ?_
  refine r_iadd (x := 7) (y := v1) dX12_besides_4 ?_
  obtain ⟨N_x8, f_x8, ha_x8, hi_x8, hf⟩ := hf
  refine r_iald ha_x8 hi_x8 dX12_besides_5 ?_
  generalize f_x8 ((7 + v1) : Int32).toNatClampNeg = x8 at hf ⊢
  refine r_istore_n (L' := [(3, aI x8), (0, aR (some v0)), (1, aI v1), (2, aI v2)]) rfl rfl (Nat.le_of_ble_eq_true rfl) dX12_besides_6 ?_
  refine r_iload_n (j := 0) rfl rfl dX12_besides_7 ?_
  refine r_aload_n (j := 1) rfl rfl dX12_besides_8 ?_
  refine r_bipush (v := 10) (by decide) dX12_besides_9 ?_
  refine r_iload_n (j := 2) rfl rfl dX12_besides_11 ?_
  refine r_iadd (x := 10) (y := v1) dX12_besides_12 ?_
  obtain ⟨N_x9, f_x9, ha_x9, hi_x9, hf⟩ := hf
  refine r_iald ha_x9 hi_x9 dX12_besides_13 ?_
  generalize f_x9 ((10 + v1) : Int32).toNatClampNeg = x9 at hf ⊢
  refine r_imul (x := x8) (y := x9) dX12_besides_14 ?_
  refine r_istore (L' := [(4, aI (x8 * x9)), (3, aI x8), (0, aR (some v0)), (1, aI v1), (2, aI v2)]) rfl (Nat.le_of_ble_eq_true rfl) dX12_besides_15 ?_
  refine r_iconst (v := 0) (by decide) dX12_besides_17 ?_
  refine r_istore (L' := [(5, aI 0), (4, aI (x8 * x9)), (3, aI x8), (0, aR (some v0)), (1, aI v1), (2, aI v2)]) rfl (Nat.le_of_ble_eq_true rfl) dX12_besides_18 ?_
  refine r_iconst (v := 0) (by decide) dX12_besides_20 ?_
  refine r_istore (L' := [(6, aI 0), (5, aI 0), (4, aI (x8 * x9)), (3, aI x8), (0, aR (some v0)), (1, aI v1), (2, aI v2)]) rfl (Nat.le_of_ble_eq_true rfl) dX12_besides_21 ?_
  obtain ⟨n, hf⟩ := hf
  exact r_sub [4, 5, 6, 3, 2, 1, 0] rfl (z_X12_besides_23 n _ _ _ _ _ _ _ _ hf)
theorem m_X12_besides {l : Launch} {G : GG} {d : Nat} {v0 : Nat} {v1 : Int32} {v2 : Int32} {σ : Hp} {K : Int32 → Hp → Prop} (hf : F_X12_besides l G d v0 v1 v2 σ K) : C_X12_besides l G (d + 1) v0 v1 v2 σ K := Sp.of (by decide) (Nat.le_of_ble_eq_true rfl) (b_X12_besides_0 hf) rfl
def F_X12_isFree_33 (l : Launch) (G : GG) (d : Nat) (s0 : Bool) (σ : Hp) (K : Bool → Hp → Prop) : Prop :=
  K s0 σ
set_option maxRecDepth 100000 in
set_option maxHeartbeats 4000000 in
theorem b_X12_isFree_33 {l : Launch} {G : GG} {d : Nat} {s0 : Bool} {σ : Hp} {K : Bool → Hp → Prop} (hf : F_X12_isFree_33 l G d s0 σ K) : Wd l G (d + 1) "CoinsLaidModel" yX12_isFree cX12_isFree 4 (some FieldType.boolean) 33 [] [aI (bi s0)] σ 0 0 (xM (QZ K)) := by
  unfold F_X12_isFree_33 at hf
  exact r_zreturn (b := s0) rfl dX12_isFree_33 rfl ⟨_, rfl, hf⟩
def F_X12_isFree_28 (l : Launch) (G : GG) (d : Nat) (σ : Hp) (K : Bool → Hp → Prop) : Prop :=
  F_X12_isFree_33 l G d true σ K
set_option maxRecDepth 100000 in
set_option maxHeartbeats 4000000 in
theorem b_X12_isFree_28 {l : Launch} {G : GG} {d : Nat} {σ : Hp} {K : Bool → Hp → Prop} (hf : F_X12_isFree_28 l G d  σ K) : Wd l G (d + 1) "CoinsLaidModel" yX12_isFree cX12_isFree 4 (some FieldType.boolean) 28 [] [] σ 0 0 (xM (QZ K)) := by
  unfold F_X12_isFree_28 at hf
  refine r_iconst (v := 1) (by decide) dX12_isFree_28 ?_
  refine r_goto (tgt := 33) (by decide) dX12_isFree_29 ?_
  exact r_sub [] rfl (b_X12_isFree_33 hf)
def F_X12_isFree_32 (l : Launch) (G : GG) (d : Nat) (σ : Hp) (K : Bool → Hp → Prop) : Prop :=
  F_X12_isFree_33 l G d false σ K
set_option maxRecDepth 100000 in
set_option maxHeartbeats 4000000 in
theorem b_X12_isFree_32 {l : Launch} {G : GG} {d : Nat} {σ : Hp} {K : Bool → Hp → Prop} (hf : F_X12_isFree_32 l G d  σ K) : Wd l G (d + 1) "CoinsLaidModel" yX12_isFree cX12_isFree 4 (some FieldType.boolean) 32 [] [] σ 0 0 (xM (QZ K)) := by
  unfold F_X12_isFree_32 at hf
  refine r_iconst (v := 0) (by decide) dX12_isFree_32 ?_
  exact r_sub [] rfl (b_X12_isFree_33 hf)
def F_X12_isFree (l : Launch) (G : GG) (d : Nat) (v0 : Nat) (v1 : Nat) (v2 : Int32) (v3 : Int32) (σ : Hp) (K : Bool → Hp → Prop) : Prop :=
  fN σ v0 12 28 fun x1 =>
  gI σ x1 v3 fun x2 =>
  (¬ ((v2 &&& x2) : Int32) = 0 →
    F_X12_isFree_32 l G d σ K) ∧
  (((v2 &&& x2) : Int32) = 0 →
    gI σ v1 2 fun x3 =>
    ((x3 : Int32) = 0 →
      F_X12_isFree_28 l G d σ K) ∧
    (¬ (x3 : Int32) = 0 →
      fN σ v0 12 29 fun x4 =>
      gI σ x4 v3 fun x5 =>
      (¬ ((v2 &&& x5) : Int32) = 0 →
        F_X12_isFree_32 l G d σ K) ∧
      (((v2 &&& x5) : Int32) = 0 →
        F_X12_isFree_28 l G d σ K)))
set_option maxRecDepth 100000 in
set_option maxHeartbeats 4000000 in
theorem b_X12_isFree_0 {l : Launch} {G : GG} {d : Nat} {v0 : Nat} {v1 : Nat} {v2 : Int32} {v3 : Int32} {σ : Hp} {K : Bool → Hp → Prop} (hf : F_X12_isFree l G d v0 v1 v2 v3 σ K) : Wd l G (d + 1) "CoinsLaidModel" yX12_isFree cX12_isFree 4 (some FieldType.boolean) 0 [(0, aR (some v0)), (1, aR (some v1)), (2, aI v2), (3, aI v3)] [] σ 0 0 (xM (QZ K)) := by
  unfold F_X12_isFree at hf
  refine r_iload_n (j := 2) rfl rfl dX12_isFree_0 ?_
  refine r_aload_n (j := 0) rfl rfl dX12_isFree_1 ?_
  obtain ⟨fs_x1, x1, ha_x1, hv_x1, hf⟩ := hf
  refine r_get (Cn := RX12) (Tt := TX12) (N := 42) (n := 28) rfl uw_X12 (Nat.le_of_ble_eq_true rfl) wd_6_214 ha_x1 hv_x1 dX12_isFree_2 ?_
  refine r_iload_n (j := 3) rfl rfl dX12_isFree_5 ?_
  obtain ⟨N_x2, f_x2, ha_x2, hi_x2, hf⟩ := hf
  refine r_iald ha_x2 hi_x2 dX12_isFree_6 ?_
  generalize f_x2 (v3 : Int32).toNatClampNeg = x2 at hf ⊢
  refine r_iand (x := v2) (y := x2) dX12_isFree_7 ?_
  refine r_ifne (x := (v2 &&& x2)) (tgt := 32) (by decide) dX12_isFree_8 (fun hc => ?_) (fun hc => ?_)
  · replace hf := hf.1 hc
    exact r_sub [] rfl (b_X12_isFree_32 hf)
  · replace hf := hf.2 hc
    refine r_aload_n (j := 1) rfl rfl dX12_isFree_11 ?_
    refine r_iconst (v := 2) (by decide) dX12_isFree_12 ?_
    obtain ⟨N_x3, f_x3, ha_x3, hi_x3, hf⟩ := hf
    refine r_iald ha_x3 hi_x3 dX12_isFree_13 ?_
    generalize f_x3 (2 : Int32).toNatClampNeg = x3 at hf ⊢
    refine r_ifeq (x := x3) (tgt := 28) (by decide) dX12_isFree_14 (fun hc => ?_) (fun hc => ?_)
    · replace hf := hf.1 hc
      exact r_sub [] rfl (b_X12_isFree_28 hf)
    · replace hf := hf.2 hc
      refine r_iload_n (j := 2) rfl rfl dX12_isFree_17 ?_
      refine r_aload_n (j := 0) rfl rfl dX12_isFree_18 ?_
      obtain ⟨fs_x4, x4, ha_x4, hv_x4, hf⟩ := hf
      refine r_get (Cn := RX12) (Tt := TX12) (N := 42) (n := 29) rfl uw_X12 (Nat.le_of_ble_eq_true rfl) wd_6_215 ha_x4 hv_x4 dX12_isFree_19 ?_
      refine r_iload_n (j := 3) rfl rfl dX12_isFree_22 ?_
      obtain ⟨N_x5, f_x5, ha_x5, hi_x5, hf⟩ := hf
      refine r_iald ha_x5 hi_x5 dX12_isFree_23 ?_
      generalize f_x5 (v3 : Int32).toNatClampNeg = x5 at hf ⊢
      refine r_iand (x := v2) (y := x5) dX12_isFree_24 ?_
      refine r_ifne (x := (v2 &&& x5)) (tgt := 32) (by decide) dX12_isFree_25 (fun hc => ?_) (fun hc => ?_)
      · replace hf := hf.1 hc
        exact r_sub [] rfl (b_X12_isFree_32 hf)
      · replace hf := hf.2 hc
        exact r_sub [] rfl (b_X12_isFree_28 hf)
theorem m_X12_isFree {l : Launch} {G : GG} {d : Nat} {v0 : Nat} {v1 : Nat} {v2 : Int32} {v3 : Int32} {σ : Hp} {K : Bool → Hp → Prop} (hr : rv σ v0 12) (hf : F_X12_isFree l G d v0 v1 v2 v3 σ K) : C_X12_isFree l G (d + 1) v0 v1 v2 v3 σ K := ⟨hr, Sp.of (by decide) (Nat.le_of_ble_eq_true rfl) (b_X12_isFree_0 hf) rfl⟩
def F_X12_mayIn_49 (l : Launch) (G : GG) (d : Nat) (s0 : Bool) (σ : Hp) (K : Bool → Hp → Prop) : Prop :=
  K s0 σ
set_option maxRecDepth 100000 in
set_option maxHeartbeats 4000000 in
theorem b_X12_mayIn_49 {l : Launch} {G : GG} {d : Nat} {s0 : Bool} {σ : Hp} {K : Bool → Hp → Prop} (hf : F_X12_mayIn_49 l G d s0 σ K) : Wd l G (d + 1) "CoinsLaidModel" yX12_mayIn cX12_mayIn 5 (some FieldType.boolean) 49 [] [aI (bi s0)] σ 0 0 (xM (QZ K)) := by
  unfold F_X12_mayIn_49 at hf
  exact r_zreturn (b := s0) rfl dX12_mayIn_49 rfl ⟨_, rfl, hf⟩
def F_X12_mayIn_44 (l : Launch) (G : GG) (d : Nat) (σ : Hp) (K : Bool → Hp → Prop) : Prop :=
  F_X12_mayIn_49 l G d true σ K
set_option maxRecDepth 100000 in
set_option maxHeartbeats 4000000 in
theorem b_X12_mayIn_44 {l : Launch} {G : GG} {d : Nat} {σ : Hp} {K : Bool → Hp → Prop} (hf : F_X12_mayIn_44 l G d  σ K) : Wd l G (d + 1) "CoinsLaidModel" yX12_mayIn cX12_mayIn 5 (some FieldType.boolean) 44 [] [] σ 0 0 (xM (QZ K)) := by
  unfold F_X12_mayIn_44 at hf
  refine r_iconst (v := 1) (by decide) dX12_mayIn_44 ?_
  refine r_goto (tgt := 49) (by decide) dX12_mayIn_45 ?_
  exact r_sub [] rfl (b_X12_mayIn_49 hf)
def F_X12_mayIn_48 (l : Launch) (G : GG) (d : Nat) (σ : Hp) (K : Bool → Hp → Prop) : Prop :=
  F_X12_mayIn_49 l G d false σ K
set_option maxRecDepth 100000 in
set_option maxHeartbeats 4000000 in
theorem b_X12_mayIn_48 {l : Launch} {G : GG} {d : Nat} {σ : Hp} {K : Bool → Hp → Prop} (hf : F_X12_mayIn_48 l G d  σ K) : Wd l G (d + 1) "CoinsLaidModel" yX12_mayIn cX12_mayIn 5 (some FieldType.boolean) 48 [] [] σ 0 0 (xM (QZ K)) := by
  unfold F_X12_mayIn_48 at hf
  refine r_iconst (v := 0) (by decide) dX12_mayIn_48 ?_
  exact r_sub [] rfl (b_X12_mayIn_49 hf)
def F_X12_mayIn (l : Launch) (G : GG) (d : Nat) (v0 : Nat) (v1 : Nat) (v2 : Int32) (v3 : Int32) (v4 : Int32) (σ : Hp) (K : Bool → Hp → Prop) : Prop :=
  C_X12_isFree l G d v0 v1 v2 v4 σ fun r2 σ1 =>
  (r2 = false →
    F_X12_mayIn_48 l G d σ1 K) ∧
  (r2 = true →
    fN σ1 v0 12 23 fun x3 =>
    gI σ1 x3 v4 fun x4 =>
    gI σ1 v1 (33 + x4) fun x5 =>
    ((x5 : Int32) = 0 →
      F_X12_mayIn_44 l G d σ1 K) ∧
    (¬ (x5 : Int32) = 0 →
      fN σ1 v0 12 23 fun x6 =>
      gI σ1 x6 v4 fun x7 =>
      gI σ1 v1 (33 + x7) fun x8 =>
      (¬ (x8 : Int32) = ((v3 + 1) : Int32) →
        F_X12_mayIn_48 l G d σ1 K) ∧
      ((x8 : Int32) = ((v3 + 1) : Int32) →
        F_X12_mayIn_44 l G d σ1 K)))
set_option maxRecDepth 100000 in
set_option maxHeartbeats 4000000 in
theorem b_X12_mayIn_0 {l : Launch} {G : GG} {d : Nat} {v0 : Nat} {v1 : Nat} {v2 : Int32} {v3 : Int32} {v4 : Int32} {σ : Hp} {K : Bool → Hp → Prop} (hf : F_X12_mayIn l G d v0 v1 v2 v3 v4 σ K) : Wd l G (d + 1) "CoinsLaidModel" yX12_mayIn cX12_mayIn 5 (some FieldType.boolean) 0 [(0, aR (some v0)), (1, aR (some v1)), (2, aI v2), (3, aI v3), (4, aI v4)] [] σ 0 0 (xM (QZ K)) := by
  unfold F_X12_mayIn at hf
  refine r_aload_n (j := 0) rfl rfl dX12_mayIn_0 ?_
  refine r_aload_n (j := 1) rfl rfl dX12_mayIn_1 ?_
  refine r_iload_n (j := 2) rfl rfl dX12_mayIn_2 ?_
  refine r_iload (j := 4) rfl dX12_mayIn_3 ?_
  try unfold C_X12_isFree at hf
  obtain ⟨⟨fs_r2, ha_r2⟩, hf⟩ := hf
  refine r_invVZ (t := 12) (As := [aR (some v1), aI v2, aI v4]) (dz := d) (mz := 0) (sz := 0) rfl wd_7_226 wd_7_228 wd_p_73 cf_X12_isFree (Nat.le_refl _) (Nat.zero_le _) (Nat.zero_le _) (cat_ok (Nat.le_of_ble_eq_true rfl)) rfl rfl ha_r2 dX12_mayIn_5 hf (fun r2 σ1 hk => ?_)
  replace hf := hk
  clear hk
  refine r_ifeqZ (b := r2) (tgt := 48) (by decide) dX12_mayIn_8 (fun hc => ?_) (fun hc => ?_)
  · replace hf := hf.1 hc
    exact r_sub [] rfl (b_X12_mayIn_48 hf)
  · replace hf := hf.2 hc
    refine r_aload_n (j := 1) rfl rfl dX12_mayIn_11 ?_
    refine r_bipush (v := 33) (by decide) dX12_mayIn_12 ?_
    refine r_aload_n (j := 0) rfl rfl dX12_mayIn_14 ?_
    obtain ⟨fs_x3, x3, ha_x3, hv_x3, hf⟩ := hf
    refine r_get (Cn := RX12) (Tt := TX12) (N := 42) (n := 23) rfl uw_X12 (Nat.le_of_ble_eq_true rfl) wd_6_209 ha_x3 hv_x3 dX12_mayIn_15 ?_
    refine r_iload (j := 4) rfl dX12_mayIn_18 ?_
    obtain ⟨N_x4, f_x4, ha_x4, hi_x4, hf⟩ := hf
    refine r_iald ha_x4 hi_x4 dX12_mayIn_20 ?_
    generalize f_x4 (v4 : Int32).toNatClampNeg = x4 at hf ⊢
    refine r_iadd (x := 33) (y := x4) dX12_mayIn_21 ?_
    obtain ⟨N_x5, f_x5, ha_x5, hi_x5, hf⟩ := hf
    refine r_iald ha_x5 hi_x5 dX12_mayIn_22 ?_
    generalize f_x5 ((33 + x4) : Int32).toNatClampNeg = x5 at hf ⊢
    refine r_ifeq (x := x5) (tgt := 44) (by decide) dX12_mayIn_23 (fun hc => ?_) (fun hc => ?_)
    · replace hf := hf.1 hc
      exact r_sub [] rfl (b_X12_mayIn_44 hf)
    · replace hf := hf.2 hc
      refine r_aload_n (j := 1) rfl rfl dX12_mayIn_26 ?_
      refine r_bipush (v := 33) (by decide) dX12_mayIn_27 ?_
      refine r_aload_n (j := 0) rfl rfl dX12_mayIn_29 ?_
      obtain ⟨fs_x6, x6, ha_x6, hv_x6, hf⟩ := hf
      refine r_get (Cn := RX12) (Tt := TX12) (N := 42) (n := 23) rfl uw_X12 (Nat.le_of_ble_eq_true rfl) wd_6_209 ha_x6 hv_x6 dX12_mayIn_30 ?_
      refine r_iload (j := 4) rfl dX12_mayIn_33 ?_
      obtain ⟨N_x7, f_x7, ha_x7, hi_x7, hf⟩ := hf
      refine r_iald ha_x7 hi_x7 dX12_mayIn_35 ?_
      generalize f_x7 (v4 : Int32).toNatClampNeg = x7 at hf ⊢
      refine r_iadd (x := 33) (y := x7) dX12_mayIn_36 ?_
      obtain ⟨N_x8, f_x8, ha_x8, hi_x8, hf⟩ := hf
      refine r_iald ha_x8 hi_x8 dX12_mayIn_37 ?_
      generalize f_x8 ((33 + x7) : Int32).toNatClampNeg = x8 at hf ⊢
      refine r_iload_n (j := 3) rfl rfl dX12_mayIn_38 ?_
      refine r_iconst (v := 1) (by decide) dX12_mayIn_39 ?_
      refine r_iadd (x := v3) (y := 1) dX12_mayIn_40 ?_
      refine r_icmpne (x := x8) (y := (v3 + 1)) (tgt := 48) (by decide) dX12_mayIn_41 (fun hc => ?_) (fun hc => ?_)
      · replace hf := hf.1 hc
        exact r_sub [] rfl (b_X12_mayIn_48 hf)
      · replace hf := hf.2 hc
        exact r_sub [] rfl (b_X12_mayIn_44 hf)
theorem m_X12_mayIn {l : Launch} {G : GG} {d : Nat} {v0 : Nat} {v1 : Nat} {v2 : Int32} {v3 : Int32} {v4 : Int32} {σ : Hp} {K : Bool → Hp → Prop} (hr : rv σ v0 12) (hf : F_X12_mayIn l G d v0 v1 v2 v3 v4 σ K) : C_X12_mayIn l G (d + 1) v0 v1 v2 v3 v4 σ K := ⟨hr, Sp.of (by decide) (Nat.le_of_ble_eq_true rfl) (b_X12_mayIn_0 hf) rfl⟩
def F_X12_isLay_26 (l : Launch) (G : GG) (d : Nat) (s0 : Bool) (σ : Hp) (K : Bool → Hp → Prop) : Prop :=
  K s0 σ
set_option maxRecDepth 100000 in
set_option maxHeartbeats 4000000 in
theorem b_X12_isLay_26 {l : Launch} {G : GG} {d : Nat} {s0 : Bool} {σ : Hp} {K : Bool → Hp → Prop} (hf : F_X12_isLay_26 l G d s0 σ K) : Wd l G (d + 1) "CoinsLaidModel" yX12_isLay cX12_isLay 2 (some FieldType.boolean) 26 [] [aI (bi s0)] σ 0 0 (xM (QZ K)) := by
  unfold F_X12_isLay_26 at hf
  exact r_zreturn (b := s0) rfl dX12_isLay_26 rfl ⟨_, rfl, hf⟩
def F_X12_isLay_25 (l : Launch) (G : GG) (d : Nat) (σ : Hp) (K : Bool → Hp → Prop) : Prop :=
  F_X12_isLay_26 l G d false σ K
set_option maxRecDepth 100000 in
set_option maxHeartbeats 4000000 in
theorem b_X12_isLay_25 {l : Launch} {G : GG} {d : Nat} {σ : Hp} {K : Bool → Hp → Prop} (hf : F_X12_isLay_25 l G d  σ K) : Wd l G (d + 1) "CoinsLaidModel" yX12_isLay cX12_isLay 2 (some FieldType.boolean) 25 [] [] σ 0 0 (xM (QZ K)) := by
  unfold F_X12_isLay_25 at hf
  refine r_iconst (v := 0) (by decide) dX12_isLay_25 ?_
  exact r_sub [] rfl (b_X12_isLay_26 hf)
def F_X12_isLay (l : Launch) (G : GG) (d : Nat) (v0 : Nat) (v1 : Int32) (σ : Hp) (K : Bool → Hp → Prop) : Prop :=
  fZ σ v0 12 14 fun x1 =>
  (x1 = false →
    F_X12_isLay_25 l G d σ K) ∧
  (x1 = true →
    fI σ v0 12 30 fun x2 =>
    C_X12_within l G d v1 0 (x2 - 1) σ fun r4 σ3 =>
    (r4 = false →
      F_X12_isLay_25 l G d σ3 K) ∧
    (r4 = true →
      F_X12_isLay_26 l G d true σ3 K))
set_option maxRecDepth 100000 in
set_option maxHeartbeats 4000000 in
theorem b_X12_isLay_0 {l : Launch} {G : GG} {d : Nat} {v0 : Nat} {v1 : Int32} {σ : Hp} {K : Bool → Hp → Prop} (hf : F_X12_isLay l G d v0 v1 σ K) : Wd l G (d + 1) "CoinsLaidModel" yX12_isLay cX12_isLay 2 (some FieldType.boolean) 0 [(0, aR (some v0)), (1, aI v1)] [] σ 0 0 (xM (QZ K)) := by
  unfold F_X12_isLay at hf
  refine r_aload_n (j := 0) rfl rfl dX12_isLay_0 ?_
  obtain ⟨fs_x1, x1, ha_x1, hv_x1, hf⟩ := hf
  refine r_get (Cn := RX12) (Tt := TX12) (N := 42) (n := 14) rfl uw_X12 (Nat.le_of_ble_eq_true rfl) wd_6_200 ha_x1 hv_x1 dX12_isLay_1 ?_
  refine r_ifeqZ (b := x1) (tgt := 25) (by decide) dX12_isLay_4 (fun hc => ?_) (fun hc => ?_)
  · replace hf := hf.1 hc
    exact r_sub [] rfl (b_X12_isLay_25 hf)
  · replace hf := hf.2 hc
    refine r_iload_n (j := 1) rfl rfl dX12_isLay_7 ?_
    refine r_iconst (v := 0) (by decide) dX12_isLay_8 ?_
    refine r_aload_n (j := 0) rfl rfl dX12_isLay_9 ?_
    obtain ⟨fs_x2, x2, ha_x2, hv_x2, hf⟩ := hf
    refine r_get (Cn := RX12) (Tt := TX12) (N := 42) (n := 30) rfl uw_X12 (Nat.le_of_ble_eq_true rfl) wd_6_216 ha_x2 hv_x2 dX12_isLay_10 ?_
    refine r_iconst (v := 1) (by decide) dX12_isLay_13 ?_
    refine r_isub (x := x2) (y := 1) dX12_isLay_14 ?_
    try unfold C_X12_within at hf
    refine r_invSZ (As := [aI v1, aI 0, aI (x2 - 1)]) (dz := d) (mz := 0) (sz := 0) rfl wd_7_89 wd_7_90 cf_X12_within (Nat.le_refl _) (Nat.zero_le _) (Nat.zero_le _) (cat_ok (Nat.le_of_ble_eq_true rfl)) dX12_isLay_15 hf (fun r4 σ3 hk => ?_)
    replace hf := hk
    clear hk
    refine r_ifeqZ (b := r4) (tgt := 25) (by decide) dX12_isLay_18 (fun hc => ?_) (fun hc => ?_)
    · replace hf := hf.1 hc
      exact r_sub [] rfl (b_X12_isLay_25 hf)
    · replace hf := hf.2 hc
      refine r_iconst (v := 1) (by decide) dX12_isLay_21 ?_
      refine r_goto (tgt := 26) (by decide) dX12_isLay_22 ?_
      exact r_sub [] rfl (b_X12_isLay_26 hf)
theorem m_X12_isLay {l : Launch} {G : GG} {d : Nat} {v0 : Nat} {v1 : Int32} {σ : Hp} {K : Bool → Hp → Prop} (hr : rv σ v0 12) (hf : F_X12_isLay l G d v0 v1 σ K) : C_X12_isLay l G (d + 1) v0 v1 σ K := ⟨hr, Sp.of (by decide) (Nat.le_of_ble_eq_true rfl) (b_X12_isLay_0 hf) rfl⟩
def F_X12_isBoard_28 (l : Launch) (G : GG) (d : Nat) (s0 : Bool) (σ : Hp) (K : Bool → Hp → Prop) : Prop :=
  K s0 σ
set_option maxRecDepth 100000 in
set_option maxHeartbeats 4000000 in
theorem b_X12_isBoard_28 {l : Launch} {G : GG} {d : Nat} {s0 : Bool} {σ : Hp} {K : Bool → Hp → Prop} (hf : F_X12_isBoard_28 l G d s0 σ K) : Wd l G (d + 1) "CoinsLaidModel" yX12_isBoard cX12_isBoard 2 (some FieldType.boolean) 28 [] [aI (bi s0)] σ 0 0 (xM (QZ K)) := by
  unfold F_X12_isBoard_28 at hf
  exact r_zreturn (b := s0) rfl dX12_isBoard_28 rfl ⟨_, rfl, hf⟩
def F_X12_isBoard_27 (l : Launch) (G : GG) (d : Nat) (σ : Hp) (K : Bool → Hp → Prop) : Prop :=
  F_X12_isBoard_28 l G d false σ K
set_option maxRecDepth 100000 in
set_option maxHeartbeats 4000000 in
theorem b_X12_isBoard_27 {l : Launch} {G : GG} {d : Nat} {σ : Hp} {K : Bool → Hp → Prop} (hf : F_X12_isBoard_27 l G d  σ K) : Wd l G (d + 1) "CoinsLaidModel" yX12_isBoard cX12_isBoard 2 (some FieldType.boolean) 27 [] [] σ 0 0 (xM (QZ K)) := by
  unfold F_X12_isBoard_27 at hf
  refine r_iconst (v := 0) (by decide) dX12_isBoard_27 ?_
  exact r_sub [] rfl (b_X12_isBoard_28 hf)
def F_X12_isBoard (l : Launch) (G : GG) (d : Nat) (v0 : Nat) (v1 : Int32) (σ : Hp) (K : Bool → Hp → Prop) : Prop :=
  fZ σ v0 12 14 fun x1 =>
  (x1 = false →
    F_X12_isBoard_27 l G d σ K) ∧
  (x1 = true →
    fN σ v0 12 15 fun x2 =>
    gI σ x2 3 fun x3 =>
    C_X12_within l G d v1 0 (x3 - 1) σ fun r5 σ4 =>
    (r5 = false →
      F_X12_isBoard_27 l G d σ4 K) ∧
    (r5 = true →
      F_X12_isBoard_28 l G d true σ4 K))
set_option maxRecDepth 100000 in
set_option maxHeartbeats 4000000 in
theorem b_X12_isBoard_0 {l : Launch} {G : GG} {d : Nat} {v0 : Nat} {v1 : Int32} {σ : Hp} {K : Bool → Hp → Prop} (hf : F_X12_isBoard l G d v0 v1 σ K) : Wd l G (d + 1) "CoinsLaidModel" yX12_isBoard cX12_isBoard 2 (some FieldType.boolean) 0 [(0, aR (some v0)), (1, aI v1)] [] σ 0 0 (xM (QZ K)) := by
  unfold F_X12_isBoard at hf
  refine r_aload_n (j := 0) rfl rfl dX12_isBoard_0 ?_
  obtain ⟨fs_x1, x1, ha_x1, hv_x1, hf⟩ := hf
  refine r_get (Cn := RX12) (Tt := TX12) (N := 42) (n := 14) rfl uw_X12 (Nat.le_of_ble_eq_true rfl) wd_6_200 ha_x1 hv_x1 dX12_isBoard_1 ?_
  refine r_ifeqZ (b := x1) (tgt := 27) (by decide) dX12_isBoard_4 (fun hc => ?_) (fun hc => ?_)
  · replace hf := hf.1 hc
    exact r_sub [] rfl (b_X12_isBoard_27 hf)
  · replace hf := hf.2 hc
    refine r_iload_n (j := 1) rfl rfl dX12_isBoard_7 ?_
    refine r_iconst (v := 0) (by decide) dX12_isBoard_8 ?_
    refine r_aload_n (j := 0) rfl rfl dX12_isBoard_9 ?_
    obtain ⟨fs_x2, x2, ha_x2, hv_x2, hf⟩ := hf
    refine r_get (Cn := RX12) (Tt := TX12) (N := 42) (n := 15) rfl uw_X12 (Nat.le_of_ble_eq_true rfl) wd_6_201 ha_x2 hv_x2 dX12_isBoard_10 ?_
    refine r_iconst (v := 3) (by decide) dX12_isBoard_13 ?_
    obtain ⟨N_x3, f_x3, ha_x3, hi_x3, hf⟩ := hf
    refine r_iald ha_x3 hi_x3 dX12_isBoard_14 ?_
    generalize f_x3 (3 : Int32).toNatClampNeg = x3 at hf ⊢
    refine r_iconst (v := 1) (by decide) dX12_isBoard_15 ?_
    refine r_isub (x := x3) (y := 1) dX12_isBoard_16 ?_
    try unfold C_X12_within at hf
    refine r_invSZ (As := [aI v1, aI 0, aI (x3 - 1)]) (dz := d) (mz := 0) (sz := 0) rfl wd_7_89 wd_7_90 cf_X12_within (Nat.le_refl _) (Nat.zero_le _) (Nat.zero_le _) (cat_ok (Nat.le_of_ble_eq_true rfl)) dX12_isBoard_17 hf (fun r5 σ4 hk => ?_)
    replace hf := hk
    clear hk
    refine r_ifeqZ (b := r5) (tgt := 27) (by decide) dX12_isBoard_20 (fun hc => ?_) (fun hc => ?_)
    · replace hf := hf.1 hc
      exact r_sub [] rfl (b_X12_isBoard_27 hf)
    · replace hf := hf.2 hc
      refine r_iconst (v := 1) (by decide) dX12_isBoard_23 ?_
      refine r_goto (tgt := 28) (by decide) dX12_isBoard_24 ?_
      exact r_sub [] rfl (b_X12_isBoard_28 hf)
theorem m_X12_isBoard {l : Launch} {G : GG} {d : Nat} {v0 : Nat} {v1 : Int32} {σ : Hp} {K : Bool → Hp → Prop} (hr : rv σ v0 12) (hf : F_X12_isBoard l G d v0 v1 σ K) : C_X12_isBoard l G (d + 1) v0 v1 σ K := ⟨hr, Sp.of (by decide) (Nat.le_of_ble_eq_true rfl) (b_X12_isBoard_0 hf) rfl⟩
def F_X12_standNow_4 (l : Launch) (G : GG) (d : Nat) (X4 : Nat → Int32 → Int32 → Hp → Prop) (v0 : Nat) (v1 : Int32) (v2 : Int32) (σ : Hp) (K : Int32 → Hp → Prop) : Prop :=
  fN σ v0 12 17 fun x1 =>
  gI σ x1 0 fun x2 =>
  ((x2 : Int32) ≤ (v2 : Int32) →
    fN σ v0 12 17 fun x3 =>
    gI σ x3 0 fun x4 =>
    ¬ (2 : Int32) = 0 ∧
    K (v1 ||| ((x4 - x4 / 2 * 2) <<< (14 &&& 31))) σ) ∧
  (¬ (x2 : Int32) ≤ (v2 : Int32) →
    fN σ v0 12 28 fun x5 =>
    fN σ v0 12 17 fun x6 =>
    gI σ x6 (1 + v2) fun x7 =>
    gI σ x5 x7 fun x8 =>
    X4 v0 (v1 ||| x8) (v2 + 1) σ)
set_option maxRecDepth 100000 in
set_option maxHeartbeats 4000000 in
theorem b_X12_standNow_4 {l : Launch} {G : GG} {d : Nat} {X4 : Nat → Int32 → Int32 → Hp → Prop} {v0 : Nat} {v1 : Int32} {v2 : Int32} {σ : Hp} {K : Int32 → Hp → Prop} (hX4 : ∀ v0 v1 v2 σ, X4 v0 v1 v2 σ → Wd l G (d + 1) "CoinsLaidModel" yX12_standNow cX12_standNow 3 (some FieldType.int) 4 [(0, aR (some v0)), (1, aI v1), (2, aI v2)] [] σ 0 0 (xM (QI K))) (hf : F_X12_standNow_4 l G d X4 v0 v1 v2 σ K) : Wd l G (d + 1) "CoinsLaidModel" yX12_standNow cX12_standNow 3 (some FieldType.int) 4 [(0, aR (some v0)), (1, aI v1), (2, aI v2)] [] σ 0 0 (xM (QI K)) := by
  unfold F_X12_standNow_4 at hf
  refine r_iload_n (j := 2) rfl rfl dX12_standNow_4 ?_
  refine r_aload_n (j := 0) rfl rfl dX12_standNow_5 ?_
  obtain ⟨fs_x1, x1, ha_x1, hv_x1, hf⟩ := hf
  refine r_get (Cn := RX12) (Tt := TX12) (N := 42) (n := 17) rfl uw_X12 (Nat.le_of_ble_eq_true rfl) wd_6_203 ha_x1 hv_x1 dX12_standNow_6 ?_
  refine r_iconst (v := 0) (by decide) dX12_standNow_9 ?_
  obtain ⟨N_x2, f_x2, ha_x2, hi_x2, hf⟩ := hf
  refine r_iald ha_x2 hi_x2 dX12_standNow_10 ?_
  generalize f_x2 (0 : Int32).toNatClampNeg = x2 at hf ⊢
  refine r_icmpge (x := v2) (y := x2) (tgt := 36) (by decide) dX12_standNow_11 (fun hc => ?_) (fun hc => ?_)
  · replace hf := hf.1 hc
    refine r_iload_n (j := 1) rfl rfl dX12_standNow_36 ?_
    refine r_aload_n (j := 0) rfl rfl dX12_standNow_37 ?_
    obtain ⟨fs_x3, x3, ha_x3, hv_x3, hf⟩ := hf
    refine r_get (Cn := RX12) (Tt := TX12) (N := 42) (n := 17) rfl uw_X12 (Nat.le_of_ble_eq_true rfl) wd_6_203 ha_x3 hv_x3 dX12_standNow_38 ?_
    refine r_iconst (v := 0) (by decide) dX12_standNow_41 ?_
    obtain ⟨N_x4, f_x4, ha_x4, hi_x4, hf⟩ := hf
    refine r_iald ha_x4 hi_x4 dX12_standNow_42 ?_
    generalize f_x4 (0 : Int32).toNatClampNeg = x4 at hf ⊢
    refine r_iconst (v := 2) (by decide) dX12_standNow_43 ?_
    obtain ⟨hne, hf⟩ := hf
    refine r_irem hne dX12_standNow_44 ?_
    refine r_bipush (v := 14) (by decide) dX12_standNow_45 ?_
    refine r_ishl (x := (x4 - x4 / 2 * 2)) (y := 14) dX12_standNow_47 ?_
    refine r_ior (x := v1) (y := ((x4 - x4 / 2 * 2) <<< (14 &&& 31))) dX12_standNow_48 ?_
    exact r_ireturn rfl dX12_standNow_49 rfl ⟨_, rfl, hf⟩
  · replace hf := hf.2 hc
    refine r_iload_n (j := 1) rfl rfl dX12_standNow_14 ?_
    refine r_aload_n (j := 0) rfl rfl dX12_standNow_15 ?_
    obtain ⟨fs_x5, x5, ha_x5, hv_x5, hf⟩ := hf
    refine r_get (Cn := RX12) (Tt := TX12) (N := 42) (n := 28) rfl uw_X12 (Nat.le_of_ble_eq_true rfl) wd_6_214 ha_x5 hv_x5 dX12_standNow_16 ?_
    refine r_aload_n (j := 0) rfl rfl dX12_standNow_19 ?_
    obtain ⟨fs_x6, x6, ha_x6, hv_x6, hf⟩ := hf
    refine r_get (Cn := RX12) (Tt := TX12) (N := 42) (n := 17) rfl uw_X12 (Nat.le_of_ble_eq_true rfl) wd_6_203 ha_x6 hv_x6 dX12_standNow_20 ?_
    refine r_iconst (v := 1) (by decide) dX12_standNow_23 ?_
    refine r_iload_n (j := 2) rfl rfl dX12_standNow_24 ?_
    refine r_iadd (x := 1) (y := v2) dX12_standNow_25 ?_
    obtain ⟨N_x7, f_x7, ha_x7, hi_x7, hf⟩ := hf
    refine r_iald ha_x7 hi_x7 dX12_standNow_26 ?_
    generalize f_x7 ((1 + v2) : Int32).toNatClampNeg = x7 at hf ⊢
    obtain ⟨N_x8, f_x8, ha_x8, hi_x8, hf⟩ := hf
    refine r_iald ha_x8 hi_x8 dX12_standNow_27 ?_
    generalize f_x8 (x7 : Int32).toNatClampNeg = x8 at hf ⊢
    refine r_ior (x := v1) (y := x8) dX12_standNow_28 ?_
    refine r_istore_n (L' := [(1, aI (v1 ||| x8)), (0, aR (some v0)), (2, aI v2)]) rfl rfl (Nat.le_of_ble_eq_true rfl) dX12_standNow_29 ?_
    refine r_iinc (j := 2) (w := (v2 + 1)) (L' := [(2, aI (v2 + 1)), (1, aI (v1 ||| x8)), (0, aR (some v0))]) rfl (by rfl) rfl (Nat.le_of_ble_eq_true rfl) dX12_standNow_30 ?_
    refine r_goto (tgt := 4) (by decide) dX12_standNow_33 ?_
    exact r_sub [2, 1, 0] rfl (hX4 _ _ _ _ hf)
def Z_X12_standNow_4 (l : Launch) (G : GG) (d : Nat) (K : Int32 → Hp → Prop) : Nat → Nat → Int32 → Int32 → Hp → Prop
  | 0 => fun _ _ _ _ => False
  | n + 1 => fun v0 v1 v2 σ => F_X12_standNow_4 l G d (Z_X12_standNow_4 l G d K n) v0 v1 v2 σ K
theorem z_X12_standNow_4 {l : Launch} {G : GG} {d : Nat} {K : Int32 → Hp → Prop} : ∀ (n : Nat) v0 v1 v2 σ, Z_X12_standNow_4 l G d K n v0 v1 v2 σ → Wd l G (d + 1) "CoinsLaidModel" yX12_standNow cX12_standNow 3 (some FieldType.int) 4 [(0, aR (some v0)), (1, aI v1), (2, aI v2)] [] σ 0 0 (xM (QI K)) := by
  intro n
  induction n with
  | zero => intro v0 v1 v2 σ hf; exact hf.elim
  | succ n ih => intro v0 v1 v2 σ hf; exact b_X12_standNow_4 ih hf
def F_X12_standNow (l : Launch) (G : GG) (d : Nat) (v0 : Nat) (σ : Hp) (K : Int32 → Hp → Prop) : Prop :=
  ∃ n, Z_X12_standNow_4 l G d K n v0 0 0 σ
set_option maxRecDepth 100000 in
set_option maxHeartbeats 4000000 in
theorem b_X12_standNow_0 {l : Launch} {G : GG} {d : Nat} {v0 : Nat} {σ : Hp} {K : Int32 → Hp → Prop} (hf : F_X12_standNow l G d v0 σ K) : Wd l G (d + 1) "CoinsLaidModel" yX12_standNow cX12_standNow 3 (some FieldType.int) 0 [(0, aR (some v0))] [] σ 0 0 (xM (QI K)) := by
  unfold F_X12_standNow at hf
  refine r_iconst (v := 0) (by decide) dX12_standNow_0 ?_
  refine r_istore_n (L' := [(1, aI 0), (0, aR (some v0))]) rfl rfl (Nat.le_of_ble_eq_true rfl) dX12_standNow_1 ?_
  refine r_iconst (v := 0) (by decide) dX12_standNow_2 ?_
  refine r_istore_n (L' := [(2, aI 0), (1, aI 0), (0, aR (some v0))]) rfl rfl (Nat.le_of_ble_eq_true rfl) dX12_standNow_3 ?_
  obtain ⟨n, hf⟩ := hf
  exact r_sub [2, 1, 0] rfl (z_X12_standNow_4 n _ _ _ _ hf)
theorem m_X12_standNow {l : Launch} {G : GG} {d : Nat} {v0 : Nat} {σ : Hp} {K : Int32 → Hp → Prop} (hr : rv σ v0 12) (hf : F_X12_standNow l G d v0 σ K) : C_X12_standNow l G (d + 1) v0 σ K := ⟨hr, Sp.of (by decide) (Nat.le_of_ble_eq_true rfl) (b_X12_standNow_0 hf) rfl⟩
def F_X12_takenOf (l : Launch) (G : GG) (d : Nat) (v0 : Int32) (σ : Hp) (K : Int32 → Hp → Prop) : Prop :=
  K (v0 &&& 16383) σ
set_option maxRecDepth 100000 in
set_option maxHeartbeats 4000000 in
theorem b_X12_takenOf_0 {l : Launch} {G : GG} {d : Nat} {v0 : Int32} {σ : Hp} {K : Int32 → Hp → Prop} (hf : F_X12_takenOf l G d v0 σ K) : Wd l G (d + 1) "CoinsLaidModel" yX12_takenOf cX12_takenOf 1 (some FieldType.int) 0 [(0, aI v0)] [] σ 0 0 (xM (QI K)) := by
  unfold F_X12_takenOf at hf
  refine r_iload_n (j := 0) rfl rfl dX12_takenOf_0 ?_
  refine r_sipush (v := 16383) (by decide) dX12_takenOf_1 ?_
  refine r_iand (x := v0) (y := 16383) dX12_takenOf_4 ?_
  exact r_ireturn rfl dX12_takenOf_5 rfl ⟨_, rfl, hf⟩
theorem m_X12_takenOf {l : Launch} {G : GG} {d : Nat} {v0 : Int32} {σ : Hp} {K : Int32 → Hp → Prop} (hf : F_X12_takenOf l G d v0 σ K) : C_X12_takenOf l G (d + 1) v0 σ K := Sp.of (by decide) (Nat.le_of_ble_eq_true rfl) (b_X12_takenOf_0 hf) rfl
def F_X12_whoOf (l : Launch) (G : GG) (d : Nat) (v0 : Int32) (σ : Hp) (K : Int32 → Hp → Prop) : Prop :=
  K (v0 >>> (14 &&& 31)) σ
set_option maxRecDepth 100000 in
set_option maxHeartbeats 4000000 in
theorem b_X12_whoOf_0 {l : Launch} {G : GG} {d : Nat} {v0 : Int32} {σ : Hp} {K : Int32 → Hp → Prop} (hf : F_X12_whoOf l G d v0 σ K) : Wd l G (d + 1) "CoinsLaidModel" yX12_whoOf cX12_whoOf 1 (some FieldType.int) 0 [(0, aI v0)] [] σ 0 0 (xM (QI K)) := by
  unfold F_X12_whoOf at hf
  refine r_iload_n (j := 0) rfl rfl dX12_whoOf_0 ?_
  refine r_bipush (v := 14) (by decide) dX12_whoOf_1 ?_
  refine r_ishr (x := v0) (y := 14) dX12_whoOf_3 ?_
  exact r_ireturn rfl dX12_whoOf_4 rfl ⟨_, rfl, hf⟩
theorem m_X12_whoOf {l : Launch} {G : GG} {d : Nat} {v0 : Int32} {σ : Hp} {K : Int32 → Hp → Prop} (hf : F_X12_whoOf l G d v0 σ K) : C_X12_whoOf l G (d + 1) v0 σ K := Sp.of (by decide) (Nat.le_of_ble_eq_true rfl) (b_X12_whoOf_0 hf) rfl
def F_X12_mayBe (l : Launch) (G : GG) (d : Nat) (v0 : Nat) (v1 : Int32) (v2 : Int32) (σ : Hp) (K : Bool → Hp → Prop) : Prop :=
  fN σ v0 12 15 fun x1 =>
  C_X12_takenOf l G d v1 σ fun r3 σ2 =>
  C_X12_whoOf l G d v1 σ2 fun r5 σ4 =>
  C_X12_mayIn l G d v0 x1 r3 r5 v2 σ4 fun r7 σ6 =>
  K r7 σ6
set_option maxRecDepth 100000 in
set_option maxHeartbeats 4000000 in
theorem b_X12_mayBe_0 {l : Launch} {G : GG} {d : Nat} {v0 : Nat} {v1 : Int32} {v2 : Int32} {σ : Hp} {K : Bool → Hp → Prop} (hf : F_X12_mayBe l G d v0 v1 v2 σ K) : Wd l G (d + 1) "CoinsLaidModel" yX12_mayBe cX12_mayBe 3 (some FieldType.boolean) 0 [(0, aR (some v0)), (1, aI v1), (2, aI v2)] [] σ 0 0 (xM (QZ K)) := by
  unfold F_X12_mayBe at hf
  refine r_aload_n (j := 0) rfl rfl dX12_mayBe_0 ?_
  refine r_aload_n (j := 0) rfl rfl dX12_mayBe_1 ?_
  obtain ⟨fs_x1, x1, ha_x1, hv_x1, hf⟩ := hf
  refine r_get (Cn := RX12) (Tt := TX12) (N := 42) (n := 15) rfl uw_X12 (Nat.le_of_ble_eq_true rfl) wd_6_201 ha_x1 hv_x1 dX12_mayBe_2 ?_
  refine r_iload_n (j := 1) rfl rfl dX12_mayBe_5 ?_
  try unfold C_X12_takenOf at hf
  refine r_invSI (As := [aI v1]) (dz := d) (mz := 0) (sz := 0) rfl wd_8_34 wd_8_35 cf_X12_takenOf (Nat.le_refl _) (Nat.zero_le _) (Nat.zero_le _) (cat_ok (Nat.le_of_ble_eq_true rfl)) dX12_mayBe_6 hf (fun r3 σ2 hk => ?_)
  replace hf := hk
  clear hk
  refine r_iload_n (j := 1) rfl rfl dX12_mayBe_9 ?_
  try unfold C_X12_whoOf at hf
  refine r_invSI (As := [aI v1]) (dz := d) (mz := 0) (sz := 0) rfl wd_8_37 wd_8_38 cf_X12_whoOf (Nat.le_refl _) (Nat.zero_le _) (Nat.zero_le _) (cat_ok (Nat.le_of_ble_eq_true rfl)) dX12_mayBe_10 hf (fun r5 σ4 hk => ?_)
  replace hf := hk
  clear hk
  refine r_iload_n (j := 2) rfl rfl dX12_mayBe_13 ?_
  try unfold C_X12_mayIn at hf
  obtain ⟨⟨fs_r7, ha_r7⟩, hf⟩ := hf
  refine r_invVZ (t := 12) (As := [aR (some x1), aI r3, aI r5, aI v2]) (dz := d) (mz := 0) (sz := 0) rfl wd_7_222 wd_7_224 wd_p_72 cf_X12_mayIn (Nat.le_refl _) (Nat.zero_le _) (Nat.zero_le _) (cat_ok (Nat.le_of_ble_eq_true rfl)) rfl rfl ha_r7 dX12_mayBe_14 hf (fun r7 σ6 hk => ?_)
  replace hf := hk
  clear hk
  exact r_zreturn (b := r7) rfl dX12_mayBe_17 rfl ⟨_, rfl, hf⟩
theorem m_X12_mayBe {l : Launch} {G : GG} {d : Nat} {v0 : Nat} {v1 : Int32} {v2 : Int32} {σ : Hp} {K : Bool → Hp → Prop} (hr : rv σ v0 12) (hf : F_X12_mayBe l G d v0 v1 v2 σ K) : C_X12_mayBe l G (d + 1) v0 v1 v2 σ K := ⟨hr, Sp.of (by decide) (Nat.le_of_ble_eq_true rfl) (b_X12_mayBe_0 hf) rfl⟩
def F_X12_behind (l : Launch) (G : GG) (d : Nat) (v0 : Nat) (v1 : Int32) (v2 : Int32) (σ : Hp) (K : Int32 → Hp → Prop) : Prop :=
  fN σ v0 12 28 fun x1 =>
  gI σ x1 v2 fun x2 =>
  K ((v1 ||| x2) ^^^ 16384) σ
set_option maxRecDepth 100000 in
set_option maxHeartbeats 4000000 in
theorem b_X12_behind_0 {l : Launch} {G : GG} {d : Nat} {v0 : Nat} {v1 : Int32} {v2 : Int32} {σ : Hp} {K : Int32 → Hp → Prop} (hf : F_X12_behind l G d v0 v1 v2 σ K) : Wd l G (d + 1) "CoinsLaidModel" yX12_behind cX12_behind 3 (some FieldType.int) 0 [(0, aR (some v0)), (1, aI v1), (2, aI v2)] [] σ 0 0 (xM (QI K)) := by
  unfold F_X12_behind at hf
  refine r_iload_n (j := 1) rfl rfl dX12_behind_0 ?_
  refine r_aload_n (j := 0) rfl rfl dX12_behind_1 ?_
  obtain ⟨fs_x1, x1, ha_x1, hv_x1, hf⟩ := hf
  refine r_get (Cn := RX12) (Tt := TX12) (N := 42) (n := 28) rfl uw_X12 (Nat.le_of_ble_eq_true rfl) wd_6_214 ha_x1 hv_x1 dX12_behind_2 ?_
  refine r_iload_n (j := 2) rfl rfl dX12_behind_5 ?_
  obtain ⟨N_x2, f_x2, ha_x2, hi_x2, hf⟩ := hf
  refine r_iald ha_x2 hi_x2 dX12_behind_6 ?_
  generalize f_x2 (v2 : Int32).toNatClampNeg = x2 at hf ⊢
  refine r_ior (x := v1) (y := x2) dX12_behind_7 ?_
  refine r_sipush (v := 16384) (by decide) dX12_behind_8 ?_
  refine r_ixor (x := (v1 ||| x2)) (y := 16384) dX12_behind_11 ?_
  exact r_ireturn rfl dX12_behind_12 rfl ⟨_, rfl, hf⟩
theorem m_X12_behind {l : Launch} {G : GG} {d : Nat} {v0 : Nat} {v1 : Int32} {v2 : Int32} {σ : Hp} {K : Int32 → Hp → Prop} (hr : rv σ v0 12) (hf : F_X12_behind l G d v0 v1 v2 σ K) : C_X12_behind l G (d + 1) v0 v1 v2 σ K := ⟨hr, Sp.of (by decide) (Nat.le_of_ble_eq_true rfl) (b_X12_behind_0 hf) rfl⟩
def F_X12_manyMay_27 (l : Launch) (G : GG) (d : Nat) (X4 : Nat → Int32 → Int32 → Int32 → Hp → Prop) (v0 : Nat) (v1 : Int32) (v3 : Int32) (s0 : Int32) (s1 : Bool) (σ : Hp) (K : Int32 → Hp → Prop) : Prop :=
  X4 v0 v1 (s0 + (bi s1)) (v3 + 1) σ
set_option maxRecDepth 100000 in
set_option maxHeartbeats 4000000 in
theorem b_X12_manyMay_27 {l : Launch} {G : GG} {d : Nat} {X4 : Nat → Int32 → Int32 → Int32 → Hp → Prop} {v0 : Nat} {v1 : Int32} {v3 : Int32} {s0 : Int32} {s1 : Bool} {σ : Hp} {K : Int32 → Hp → Prop} (hX4 : ∀ v0 v1 v2 v3 σ, X4 v0 v1 v2 v3 σ → Wd l G (d + 1) "CoinsLaidModel" yX12_manyMay cX12_manyMay 4 (some FieldType.int) 4 [(0, aR (some v0)), (1, aI v1), (2, aI v2), (3, aI v3)] [] σ 0 0 (xM (QI K))) (hf : F_X12_manyMay_27 l G d X4 v0 v1 v3 s0 s1 σ K) : Wd l G (d + 1) "CoinsLaidModel" yX12_manyMay cX12_manyMay 4 (some FieldType.int) 27 [(0, aR (some v0)), (1, aI v1), (3, aI v3)] [aI (bi s1), aI s0] σ 0 0 (xM (QI K)) := by
  unfold F_X12_manyMay_27 at hf
  refine r_iadd (x := s0) (y := (bi s1)) dX12_manyMay_27 ?_
  refine r_istore_n (L' := [(2, aI (s0 + (bi s1))), (0, aR (some v0)), (1, aI v1), (3, aI v3)]) rfl rfl (Nat.le_of_ble_eq_true rfl) dX12_manyMay_28 ?_
  refine r_iinc (j := 3) (w := (v3 + 1)) (L' := [(3, aI (v3 + 1)), (2, aI (s0 + (bi s1))), (0, aR (some v0)), (1, aI v1)]) rfl (by rfl) rfl (Nat.le_of_ble_eq_true rfl) dX12_manyMay_29 ?_
  refine r_goto (tgt := 4) (by decide) dX12_manyMay_32 ?_
  exact r_sub [2, 3, 1, 0] rfl (hX4 _ _ _ _ _ hf)
def F_X12_manyMay_4 (l : Launch) (G : GG) (d : Nat) (X4 : Nat → Int32 → Int32 → Int32 → Hp → Prop) (v0 : Nat) (v1 : Int32) (v2 : Int32) (v3 : Int32) (σ : Hp) (K : Int32 → Hp → Prop) : Prop :=
  fI σ v0 12 30 fun x1 =>
  ((x1 : Int32) ≤ (v3 : Int32) →
    K v2 σ) ∧
  (¬ (x1 : Int32) ≤ (v3 : Int32) →
    C_X12_mayBe l G d v0 v1 v3 σ fun r3 σ2 =>
    (r3 = false →
      F_X12_manyMay_27 l G d X4 v0 v1 v3 v2 false σ2 K) ∧
    (r3 = true →
      F_X12_manyMay_27 l G d X4 v0 v1 v3 v2 true σ2 K))
set_option maxRecDepth 100000 in
set_option maxHeartbeats 4000000 in
theorem b_X12_manyMay_4 {l : Launch} {G : GG} {d : Nat} {X4 : Nat → Int32 → Int32 → Int32 → Hp → Prop} {v0 : Nat} {v1 : Int32} {v2 : Int32} {v3 : Int32} {σ : Hp} {K : Int32 → Hp → Prop} (hX4 : ∀ v0 v1 v2 v3 σ, X4 v0 v1 v2 v3 σ → Wd l G (d + 1) "CoinsLaidModel" yX12_manyMay cX12_manyMay 4 (some FieldType.int) 4 [(0, aR (some v0)), (1, aI v1), (2, aI v2), (3, aI v3)] [] σ 0 0 (xM (QI K))) (hf : F_X12_manyMay_4 l G d X4 v0 v1 v2 v3 σ K) : Wd l G (d + 1) "CoinsLaidModel" yX12_manyMay cX12_manyMay 4 (some FieldType.int) 4 [(0, aR (some v0)), (1, aI v1), (2, aI v2), (3, aI v3)] [] σ 0 0 (xM (QI K)) := by
  unfold F_X12_manyMay_4 at hf
  refine r_iload_n (j := 3) rfl rfl dX12_manyMay_4 ?_
  refine r_aload_n (j := 0) rfl rfl dX12_manyMay_5 ?_
  obtain ⟨fs_x1, x1, ha_x1, hv_x1, hf⟩ := hf
  refine r_get (Cn := RX12) (Tt := TX12) (N := 42) (n := 30) rfl uw_X12 (Nat.le_of_ble_eq_true rfl) wd_6_216 ha_x1 hv_x1 dX12_manyMay_6 ?_
  refine r_icmpge (x := v3) (y := x1) (tgt := 35) (by decide) dX12_manyMay_9 (fun hc => ?_) (fun hc => ?_)
  · replace hf := hf.1 hc
    refine r_iload_n (j := 2) rfl rfl dX12_manyMay_35 ?_
    exact r_ireturn rfl dX12_manyMay_36 rfl ⟨_, rfl, hf⟩
  · replace hf := hf.2 hc
    refine r_iload_n (j := 2) rfl rfl dX12_manyMay_12 ?_
    refine r_aload_n (j := 0) rfl rfl dX12_manyMay_13 ?_
    refine r_iload_n (j := 1) rfl rfl dX12_manyMay_14 ?_
    refine r_iload_n (j := 3) rfl rfl dX12_manyMay_15 ?_
    try unfold C_X12_mayBe at hf
    obtain ⟨⟨fs_r3, ha_r3⟩, hf⟩ := hf
    refine r_invVZ (t := 12) (As := [aI v1, aI v3]) (dz := d) (mz := 0) (sz := 0) rfl wd_8_30 wd_8_32 wd_p_78 cf_X12_mayBe (Nat.le_refl _) (Nat.zero_le _) (Nat.zero_le _) (cat_ok (Nat.le_of_ble_eq_true rfl)) rfl rfl ha_r3 dX12_manyMay_16 hf (fun r3 σ2 hk => ?_)
    replace hf := hk
    clear hk
    refine r_ifeqZ (b := r3) (tgt := 26) (by decide) dX12_manyMay_19 (fun hc => ?_) (fun hc => ?_)
    · replace hf := hf.1 hc
      refine r_iconst (v := 0) (by decide) dX12_manyMay_26 ?_
      exact r_sub [0, 1, 3] rfl (b_X12_manyMay_27 hX4 hf)
    · replace hf := hf.2 hc
      refine r_iconst (v := 1) (by decide) dX12_manyMay_22 ?_
      refine r_goto (tgt := 27) (by decide) dX12_manyMay_23 ?_
      exact r_sub [0, 1, 3] rfl (b_X12_manyMay_27 hX4 hf)
def Z_X12_manyMay_4 (l : Launch) (G : GG) (d : Nat) (K : Int32 → Hp → Prop) : Nat → Nat → Int32 → Int32 → Int32 → Hp → Prop
  | 0 => fun _ _ _ _ _ => False
  | n + 1 => fun v0 v1 v2 v3 σ => F_X12_manyMay_4 l G d (Z_X12_manyMay_4 l G d K n) v0 v1 v2 v3 σ K
theorem z_X12_manyMay_4 {l : Launch} {G : GG} {d : Nat} {K : Int32 → Hp → Prop} : ∀ (n : Nat) v0 v1 v2 v3 σ, Z_X12_manyMay_4 l G d K n v0 v1 v2 v3 σ → Wd l G (d + 1) "CoinsLaidModel" yX12_manyMay cX12_manyMay 4 (some FieldType.int) 4 [(0, aR (some v0)), (1, aI v1), (2, aI v2), (3, aI v3)] [] σ 0 0 (xM (QI K)) := by
  intro n
  induction n with
  | zero => intro v0 v1 v2 v3 σ hf; exact hf.elim
  | succ n ih => intro v0 v1 v2 v3 σ hf; exact b_X12_manyMay_4 ih hf
def F_X12_manyMay (l : Launch) (G : GG) (d : Nat) (v0 : Nat) (v1 : Int32) (σ : Hp) (K : Int32 → Hp → Prop) : Prop :=
  ∃ n, Z_X12_manyMay_4 l G d K n v0 v1 0 0 σ
set_option maxRecDepth 100000 in
set_option maxHeartbeats 4000000 in
theorem b_X12_manyMay_0 {l : Launch} {G : GG} {d : Nat} {v0 : Nat} {v1 : Int32} {σ : Hp} {K : Int32 → Hp → Prop} (hf : F_X12_manyMay l G d v0 v1 σ K) : Wd l G (d + 1) "CoinsLaidModel" yX12_manyMay cX12_manyMay 4 (some FieldType.int) 0 [(0, aR (some v0)), (1, aI v1)] [] σ 0 0 (xM (QI K)) := by
  unfold F_X12_manyMay at hf
  refine r_iconst (v := 0) (by decide) dX12_manyMay_0 ?_
  refine r_istore_n (L' := [(2, aI 0), (0, aR (some v0)), (1, aI v1)]) rfl rfl (Nat.le_of_ble_eq_true rfl) dX12_manyMay_1 ?_
  refine r_iconst (v := 0) (by decide) dX12_manyMay_2 ?_
  refine r_istore_n (L' := [(3, aI 0), (2, aI 0), (0, aR (some v0)), (1, aI v1)]) rfl rfl (Nat.le_of_ble_eq_true rfl) dX12_manyMay_3 ?_
  obtain ⟨n, hf⟩ := hf
  exact r_sub [2, 3, 1, 0] rfl (z_X12_manyMay_4 n _ _ _ _ _ hf)
theorem m_X12_manyMay {l : Launch} {G : GG} {d : Nat} {v0 : Nat} {v1 : Int32} {σ : Hp} {K : Int32 → Hp → Prop} (hr : rv σ v0 12) (hf : F_X12_manyMay l G d v0 v1 σ K) : C_X12_manyMay l G (d + 1) v0 v1 σ K := ⟨hr, Sp.of (by decide) (Nat.le_of_ble_eq_true rfl) (b_X12_manyMay_0 hf) rfl⟩
def F_X12_mayAt_38 (l : Launch) (G : GG) (d : Nat) (X5 : Nat → Int32 → Int32 → Int32 → Int32 → Hp → Prop) (v0 : Nat) (v1 : Int32) (v2 : Int32) (v3 : Int32) (v4 : Int32) (σ : Hp) (K : Int32 → Hp → Prop) : Prop :=
  X5 v0 v1 v2 v3 (v4 + 1) σ
set_option maxRecDepth 100000 in
set_option maxHeartbeats 4000000 in
theorem b_X12_mayAt_38 {l : Launch} {G : GG} {d : Nat} {X5 : Nat → Int32 → Int32 → Int32 → Int32 → Hp → Prop} {v0 : Nat} {v1 : Int32} {v2 : Int32} {v3 : Int32} {v4 : Int32} {σ : Hp} {K : Int32 → Hp → Prop} (hX5 : ∀ v0 v1 v2 v3 v4 σ, X5 v0 v1 v2 v3 v4 σ → Wd l G (d + 1) "CoinsLaidModel" yX12_mayAt cX12_mayAt 5 (some FieldType.int) 5 [(0, aR (some v0)), (1, aI v1), (2, aI v2), (3, aI v3), (4, aI v4)] [] σ 0 0 (xM (QI K))) (hf : F_X12_mayAt_38 l G d X5 v0 v1 v2 v3 v4 σ K) : Wd l G (d + 1) "CoinsLaidModel" yX12_mayAt cX12_mayAt 5 (some FieldType.int) 38 [(0, aR (some v0)), (1, aI v1), (2, aI v2), (3, aI v3), (4, aI v4)] [] σ 0 0 (xM (QI K)) := by
  unfold F_X12_mayAt_38 at hf
  refine r_iinc (j := 4) (w := (v4 + 1)) (L' := [(4, aI (v4 + 1)), (0, aR (some v0)), (1, aI v1), (2, aI v2), (3, aI v3)]) rfl (by rfl) rfl (Nat.le_of_ble_eq_true rfl) dX12_mayAt_38 ?_
  refine r_goto (tgt := 5) (by decide) dX12_mayAt_41 ?_
  exact r_sub [1, 2, 3, 4, 0] rfl (hX5 _ _ _ _ _ _ hf)
def F_X12_mayAt_5 (l : Launch) (G : GG) (d : Nat) (X5 : Nat → Int32 → Int32 → Int32 → Int32 → Hp → Prop) (v0 : Nat) (v1 : Int32) (v2 : Int32) (v3 : Int32) (v4 : Int32) (σ : Hp) (K : Int32 → Hp → Prop) : Prop :=
  fI σ v0 12 30 fun x1 =>
  ((x1 : Int32) ≤ (v4 : Int32) →
    K (-2) σ) ∧
  (¬ (x1 : Int32) ≤ (v4 : Int32) →
    C_X12_mayBe l G d v0 v1 v4 σ fun r3 σ2 =>
    (r3 = true →
      (¬ (v3 : Int32) = (v2 : Int32) →
        F_X12_mayAt_38 l G d X5 v0 v1 v2 (v3 + 1) v4 σ2 K) ∧
      ((v3 : Int32) = (v2 : Int32) →
        K v4 σ2)) ∧
    (r3 = false →
      F_X12_mayAt_38 l G d X5 v0 v1 v2 v3 v4 σ2 K))
set_option maxRecDepth 100000 in
set_option maxHeartbeats 4000000 in
theorem b_X12_mayAt_5 {l : Launch} {G : GG} {d : Nat} {X5 : Nat → Int32 → Int32 → Int32 → Int32 → Hp → Prop} {v0 : Nat} {v1 : Int32} {v2 : Int32} {v3 : Int32} {v4 : Int32} {σ : Hp} {K : Int32 → Hp → Prop} (hX5 : ∀ v0 v1 v2 v3 v4 σ, X5 v0 v1 v2 v3 v4 σ → Wd l G (d + 1) "CoinsLaidModel" yX12_mayAt cX12_mayAt 5 (some FieldType.int) 5 [(0, aR (some v0)), (1, aI v1), (2, aI v2), (3, aI v3), (4, aI v4)] [] σ 0 0 (xM (QI K))) (hf : F_X12_mayAt_5 l G d X5 v0 v1 v2 v3 v4 σ K) : Wd l G (d + 1) "CoinsLaidModel" yX12_mayAt cX12_mayAt 5 (some FieldType.int) 5 [(0, aR (some v0)), (1, aI v1), (2, aI v2), (3, aI v3), (4, aI v4)] [] σ 0 0 (xM (QI K)) := by
  unfold F_X12_mayAt_5 at hf
  refine r_iload (j := 4) rfl dX12_mayAt_5 ?_
  refine r_aload_n (j := 0) rfl rfl dX12_mayAt_7 ?_
  obtain ⟨fs_x1, x1, ha_x1, hv_x1, hf⟩ := hf
  refine r_get (Cn := RX12) (Tt := TX12) (N := 42) (n := 30) rfl uw_X12 (Nat.le_of_ble_eq_true rfl) wd_6_216 ha_x1 hv_x1 dX12_mayAt_8 ?_
  refine r_icmpge (x := v4) (y := x1) (tgt := 44) (by decide) dX12_mayAt_11 (fun hc => ?_) (fun hc => ?_)
  · replace hf := hf.1 hc
    refine r_bipush (v := (-2)) (by decide) dX12_mayAt_44 ?_
    exact r_ireturn rfl dX12_mayAt_46 rfl ⟨_, rfl, hf⟩
  · replace hf := hf.2 hc
    refine r_aload_n (j := 0) rfl rfl dX12_mayAt_14 ?_
    refine r_iload_n (j := 1) rfl rfl dX12_mayAt_15 ?_
    refine r_iload (j := 4) rfl dX12_mayAt_16 ?_
    try unfold C_X12_mayBe at hf
    obtain ⟨⟨fs_r3, ha_r3⟩, hf⟩ := hf
    refine r_invVZ (t := 12) (As := [aI v1, aI v4]) (dz := d) (mz := 0) (sz := 0) rfl wd_8_30 wd_8_32 wd_p_78 cf_X12_mayBe (Nat.le_refl _) (Nat.zero_le _) (Nat.zero_le _) (cat_ok (Nat.le_of_ble_eq_true rfl)) rfl rfl ha_r3 dX12_mayAt_18 hf (fun r3 σ2 hk => ?_)
    replace hf := hk
    clear hk
    refine r_ifneZ (b := r3) (tgt := 27) (by decide) dX12_mayAt_21 (fun hc => ?_) (fun hc => ?_)
    · replace hf := hf.1 hc
      refine r_iload_n (j := 3) rfl rfl dX12_mayAt_27 ?_
      refine r_iload_n (j := 2) rfl rfl dX12_mayAt_28 ?_
      refine r_icmpne (x := v3) (y := v2) (tgt := 35) (by decide) dX12_mayAt_29 (fun hc => ?_) (fun hc => ?_)
      · replace hf := hf.1 hc
        refine r_iinc (j := 3) (w := (v3 + 1)) (L' := [(3, aI (v3 + 1)), (0, aR (some v0)), (1, aI v1), (2, aI v2), (4, aI v4)]) rfl (by rfl) rfl (Nat.le_of_ble_eq_true rfl) dX12_mayAt_35 ?_
        exact r_sub [1, 2, 3, 0, 4] rfl (b_X12_mayAt_38 hX5 hf)
      · replace hf := hf.2 hc
        refine r_iload (j := 4) rfl dX12_mayAt_32 ?_
        exact r_ireturn rfl dX12_mayAt_34 rfl ⟨_, rfl, hf⟩
    · replace hf := hf.2 hc
      refine r_goto (tgt := 38) (by decide) dX12_mayAt_24 ?_
      exact r_sub [0, 1, 2, 3, 4] rfl (b_X12_mayAt_38 hX5 hf)
def Z_X12_mayAt_5 (l : Launch) (G : GG) (d : Nat) (K : Int32 → Hp → Prop) : Nat → Nat → Int32 → Int32 → Int32 → Int32 → Hp → Prop
  | 0 => fun _ _ _ _ _ _ => False
  | n + 1 => fun v0 v1 v2 v3 v4 σ => F_X12_mayAt_5 l G d (Z_X12_mayAt_5 l G d K n) v0 v1 v2 v3 v4 σ K
theorem z_X12_mayAt_5 {l : Launch} {G : GG} {d : Nat} {K : Int32 → Hp → Prop} : ∀ (n : Nat) v0 v1 v2 v3 v4 σ, Z_X12_mayAt_5 l G d K n v0 v1 v2 v3 v4 σ → Wd l G (d + 1) "CoinsLaidModel" yX12_mayAt cX12_mayAt 5 (some FieldType.int) 5 [(0, aR (some v0)), (1, aI v1), (2, aI v2), (3, aI v3), (4, aI v4)] [] σ 0 0 (xM (QI K)) := by
  intro n
  induction n with
  | zero => intro v0 v1 v2 v3 v4 σ hf; exact hf.elim
  | succ n ih => intro v0 v1 v2 v3 v4 σ hf; exact b_X12_mayAt_5 ih hf
def F_X12_mayAt (l : Launch) (G : GG) (d : Nat) (v0 : Nat) (v1 : Int32) (v2 : Int32) (σ : Hp) (K : Int32 → Hp → Prop) : Prop :=
  ∃ n, Z_X12_mayAt_5 l G d K n v0 v1 v2 0 0 σ
set_option maxRecDepth 100000 in
set_option maxHeartbeats 4000000 in
theorem b_X12_mayAt_0 {l : Launch} {G : GG} {d : Nat} {v0 : Nat} {v1 : Int32} {v2 : Int32} {σ : Hp} {K : Int32 → Hp → Prop} (hf : F_X12_mayAt l G d v0 v1 v2 σ K) : Wd l G (d + 1) "CoinsLaidModel" yX12_mayAt cX12_mayAt 5 (some FieldType.int) 0 [(0, aR (some v0)), (1, aI v1), (2, aI v2)] [] σ 0 0 (xM (QI K)) := by
  unfold F_X12_mayAt at hf
  refine r_iconst (v := 0) (by decide) dX12_mayAt_0 ?_
  refine r_istore_n (L' := [(3, aI 0), (0, aR (some v0)), (1, aI v1), (2, aI v2)]) rfl rfl (Nat.le_of_ble_eq_true rfl) dX12_mayAt_1 ?_
  refine r_iconst (v := 0) (by decide) dX12_mayAt_2 ?_
  refine r_istore (L' := [(4, aI 0), (3, aI 0), (0, aR (some v0)), (1, aI v1), (2, aI v2)]) rfl (Nat.le_of_ble_eq_true rfl) dX12_mayAt_3 ?_
  obtain ⟨n, hf⟩ := hf
  exact r_sub [2, 3, 4, 1, 0] rfl (z_X12_mayAt_5 n _ _ _ _ _ _ hf)
theorem m_X12_mayAt {l : Launch} {G : GG} {d : Nat} {v0 : Nat} {v1 : Int32} {v2 : Int32} {σ : Hp} {K : Int32 → Hp → Prop} (hr : rv σ v0 12) (hf : F_X12_mayAt l G d v0 v1 v2 σ K) : C_X12_mayAt l G (d + 1) v0 v1 v2 σ K := ⟨hr, Sp.of (by decide) (Nat.le_of_ble_eq_true rfl) (b_X12_mayAt_0 hf) rfl⟩
def F_X12_lay (l : Launch) (G : GG) (d : Nat) (v0 : Nat) (v1 : Int32) (v2 : Int32) (σ : Hp) (K : Int32 → Hp → Prop) : Prop :=
  C_X12_clear l G d v0 σ fun σ1 =>
  C_X12_isLay l G d v0 v1 σ1 fun r4 σ3 =>
  (r4 = true →
    ((v2 : Int32) = 0 →
      fN σ3 v0 12 23 fun x5 =>
      gI σ3 x5 v1 fun x6 =>
      K x6 σ3) ∧
    ((v2 : Int32) = 1 →
      fN σ3 v0 12 24 fun x7 =>
      gI σ3 x7 v1 fun x8 =>
      K x8 σ3) ∧
    ((v2 : Int32) = 2 →
      fN σ3 v0 12 25 fun x9 =>
      gI σ3 x9 v1 fun x10 =>
      K x10 σ3) ∧
    ((v2 : Int32) = 3 →
      fN σ3 v0 12 26 fun x11 =>
      gI σ3 x11 v1 fun x12 =>
      K x12 σ3) ∧
    ((v2 : Int32) = 4 →
      fN σ3 v0 12 27 fun x13 =>
      gI σ3 x13 v1 fun x14 =>
      K x14 σ3) ∧
    ((v2 : Int32) = 5 →
      fN σ3 v0 12 28 fun x15 =>
      gI σ3 x15 v1 fun x16 =>
      K x16 σ3) ∧
    (¬ (v2 : Int32) = 0 → ¬ (v2 : Int32) = 1 → ¬ (v2 : Int32) = 2 → ¬ (v2 : Int32) = 3 → ¬ (v2 : Int32) = 4 → ¬ (v2 : Int32) = 5 →
      C_X12_no l G d v0 1 σ3 fun r18 σ17 =>
      K r18 σ17)) ∧
  (r4 = false →
    C_X12_no l G d v0 1 σ3 fun r20 σ19 =>
    K r20 σ19)
set_option maxRecDepth 100000 in
set_option maxHeartbeats 4000000 in
theorem b_X12_lay_0 {l : Launch} {G : GG} {d : Nat} {v0 : Nat} {v1 : Int32} {v2 : Int32} {σ : Hp} {K : Int32 → Hp → Prop} (hf : F_X12_lay l G d v0 v1 v2 σ K) : Wd l G (d + 1) "CoinsLaidModel" yX12_lay cX12_lay 3 (some FieldType.int) 0 [(0, aR (some v0)), (1, aI v1), (2, aI v2)] [] σ 0 0 (xM (QI K)) := by
  unfold F_X12_lay at hf
  refine r_aload_n (j := 0) rfl rfl dX12_lay_0 ?_
  try unfold C_X12_clear at hf
  obtain ⟨⟨fs_r2, ha_r2⟩, hf⟩ := hf
  refine r_invVU (t := 12) (As := []) (dz := d) (mz := 0) (sz := 0) rfl wd_7_85 wd_7_87 wd_p_49 cf_X12_clear (Nat.le_refl _) (Nat.zero_le _) (Nat.zero_le _) (cat_ok (Nat.le_of_ble_eq_true rfl)) rfl rfl ha_r2 dX12_lay_1 hf (fun σ1 hk => ?_)
  replace hf := hk
  clear hk
  refine r_aload_n (j := 0) rfl rfl dX12_lay_4 ?_
  refine r_iload_n (j := 1) rfl rfl dX12_lay_5 ?_
  try unfold C_X12_isLay at hf
  obtain ⟨⟨fs_r4, ha_r4⟩, hf⟩ := hf
  refine r_invVZ (t := 12) (As := [aI v1]) (dz := d) (mz := 0) (sz := 0) rfl wd_8_10 wd_8_12 wd_p_75 cf_X12_isLay (Nat.le_refl _) (Nat.zero_le _) (Nat.zero_le _) (cat_ok (Nat.le_of_ble_eq_true rfl)) rfl rfl ha_r4 dX12_lay_6 hf (fun r4 σ3 hk => ?_)
  replace hf := hk
  clear hk
  refine r_ifneZ (b := r4) (tgt := 18) (by decide) dX12_lay_9 (fun hc => ?_) (fun hc => ?_)
  · replace hf := hf.1 hc
    refine r_iload_n (j := 2) rfl rfl dX12_lay_18 ?_
    by_cases hc0 : (v2 : Int32) = 0
    · replace hf := hf.1 hc0
      refine r_tabIn (tgt := 56) (off := 37) (by rw [hc0]; decide) (by rw [hc0]; decide) (by rw [hc0]; decide) (by decide) dX12_lay_19 ?_
      refine r_aload_n (j := 0) rfl rfl dX12_lay_56 ?_
      obtain ⟨fs_x5, x5, ha_x5, hv_x5, hf⟩ := hf
      refine r_get (Cn := RX12) (Tt := TX12) (N := 42) (n := 23) rfl uw_X12 (Nat.le_of_ble_eq_true rfl) wd_6_209 ha_x5 hv_x5 dX12_lay_57 ?_
      refine r_iload_n (j := 1) rfl rfl dX12_lay_60 ?_
      obtain ⟨N_x6, f_x6, ha_x6, hi_x6, hf⟩ := hf
      refine r_iald ha_x6 hi_x6 dX12_lay_61 ?_
      generalize f_x6 (v1 : Int32).toNatClampNeg = x6 at hf ⊢
      exact r_ireturn rfl dX12_lay_62 rfl ⟨_, rfl, hf⟩
    by_cases hc1 : (v2 : Int32) = 1
    · replace hf := hf.2.1 hc1
      refine r_tabIn (tgt := 63) (off := 44) (by rw [hc1]; decide) (by rw [hc1]; decide) (by rw [hc1]; decide) (by decide) dX12_lay_19 ?_
      refine r_aload_n (j := 0) rfl rfl dX12_lay_63 ?_
      obtain ⟨fs_x7, x7, ha_x7, hv_x7, hf⟩ := hf
      refine r_get (Cn := RX12) (Tt := TX12) (N := 42) (n := 24) rfl uw_X12 (Nat.le_of_ble_eq_true rfl) wd_6_210 ha_x7 hv_x7 dX12_lay_64 ?_
      refine r_iload_n (j := 1) rfl rfl dX12_lay_67 ?_
      obtain ⟨N_x8, f_x8, ha_x8, hi_x8, hf⟩ := hf
      refine r_iald ha_x8 hi_x8 dX12_lay_68 ?_
      generalize f_x8 (v1 : Int32).toNatClampNeg = x8 at hf ⊢
      exact r_ireturn rfl dX12_lay_69 rfl ⟨_, rfl, hf⟩
    by_cases hc2 : (v2 : Int32) = 2
    · replace hf := hf.2.2.1 hc2
      refine r_tabIn (tgt := 70) (off := 51) (by rw [hc2]; decide) (by rw [hc2]; decide) (by rw [hc2]; decide) (by decide) dX12_lay_19 ?_
      refine r_aload_n (j := 0) rfl rfl dX12_lay_70 ?_
      obtain ⟨fs_x9, x9, ha_x9, hv_x9, hf⟩ := hf
      refine r_get (Cn := RX12) (Tt := TX12) (N := 42) (n := 25) rfl uw_X12 (Nat.le_of_ble_eq_true rfl) wd_6_211 ha_x9 hv_x9 dX12_lay_71 ?_
      refine r_iload_n (j := 1) rfl rfl dX12_lay_74 ?_
      obtain ⟨N_x10, f_x10, ha_x10, hi_x10, hf⟩ := hf
      refine r_iald ha_x10 hi_x10 dX12_lay_75 ?_
      generalize f_x10 (v1 : Int32).toNatClampNeg = x10 at hf ⊢
      exact r_ireturn rfl dX12_lay_76 rfl ⟨_, rfl, hf⟩
    by_cases hc3 : (v2 : Int32) = 3
    · replace hf := hf.2.2.2.1 hc3
      refine r_tabIn (tgt := 77) (off := 58) (by rw [hc3]; decide) (by rw [hc3]; decide) (by rw [hc3]; decide) (by decide) dX12_lay_19 ?_
      refine r_aload_n (j := 0) rfl rfl dX12_lay_77 ?_
      obtain ⟨fs_x11, x11, ha_x11, hv_x11, hf⟩ := hf
      refine r_get (Cn := RX12) (Tt := TX12) (N := 42) (n := 26) rfl uw_X12 (Nat.le_of_ble_eq_true rfl) wd_6_212 ha_x11 hv_x11 dX12_lay_78 ?_
      refine r_iload_n (j := 1) rfl rfl dX12_lay_81 ?_
      obtain ⟨N_x12, f_x12, ha_x12, hi_x12, hf⟩ := hf
      refine r_iald ha_x12 hi_x12 dX12_lay_82 ?_
      generalize f_x12 (v1 : Int32).toNatClampNeg = x12 at hf ⊢
      exact r_ireturn rfl dX12_lay_83 rfl ⟨_, rfl, hf⟩
    by_cases hc4 : (v2 : Int32) = 4
    · replace hf := hf.2.2.2.2.1 hc4
      refine r_tabIn (tgt := 84) (off := 65) (by rw [hc4]; decide) (by rw [hc4]; decide) (by rw [hc4]; decide) (by decide) dX12_lay_19 ?_
      refine r_aload_n (j := 0) rfl rfl dX12_lay_84 ?_
      obtain ⟨fs_x13, x13, ha_x13, hv_x13, hf⟩ := hf
      refine r_get (Cn := RX12) (Tt := TX12) (N := 42) (n := 27) rfl uw_X12 (Nat.le_of_ble_eq_true rfl) wd_6_213 ha_x13 hv_x13 dX12_lay_85 ?_
      refine r_iload_n (j := 1) rfl rfl dX12_lay_88 ?_
      obtain ⟨N_x14, f_x14, ha_x14, hi_x14, hf⟩ := hf
      refine r_iald ha_x14 hi_x14 dX12_lay_89 ?_
      generalize f_x14 (v1 : Int32).toNatClampNeg = x14 at hf ⊢
      exact r_ireturn rfl dX12_lay_90 rfl ⟨_, rfl, hf⟩
    by_cases hc5 : (v2 : Int32) = 5
    · replace hf := hf.2.2.2.2.2.1 hc5
      refine r_tabIn (tgt := 91) (off := 72) (by rw [hc5]; decide) (by rw [hc5]; decide) (by rw [hc5]; decide) (by decide) dX12_lay_19 ?_
      refine r_aload_n (j := 0) rfl rfl dX12_lay_91 ?_
      obtain ⟨fs_x15, x15, ha_x15, hv_x15, hf⟩ := hf
      refine r_get (Cn := RX12) (Tt := TX12) (N := 42) (n := 28) rfl uw_X12 (Nat.le_of_ble_eq_true rfl) wd_6_214 ha_x15 hv_x15 dX12_lay_92 ?_
      refine r_iload_n (j := 1) rfl rfl dX12_lay_95 ?_
      obtain ⟨N_x16, f_x16, ha_x16, hi_x16, hf⟩ := hf
      refine r_iald ha_x16 hi_x16 dX12_lay_96 ?_
      generalize f_x16 (v1 : Int32).toNatClampNeg = x16 at hf ⊢
      exact r_ireturn rfl dX12_lay_97 rfl ⟨_, rfl, hf⟩
    replace hf := hf.2.2.2.2.2.2 hc0 hc1 hc2 hc3 hc4 hc5
    refine r_tabOut (x := v2) (tgt := 98) (tab_out (tab_cons (lo' := 1) (tab_ne hc0 (by decide)) (by decide) (tab_cons (lo' := 2) (tab_ne hc1 (by decide)) (by decide) (tab_cons (lo' := 3) (tab_ne hc2 (by decide)) (by decide) (tab_cons (lo' := 4) (tab_ne hc3 (by decide)) (by decide) (tab_cons (lo' := 5) (tab_ne hc4 (by decide)) (by decide) (tab_cons (lo' := 6) (tab_ne hc5 (by decide)) (by decide) (tab_nil (by decide))))))))) (by decide) dX12_lay_19 ?_
    refine r_aload_n (j := 0) rfl rfl dX12_lay_98 ?_
    refine r_iconst (v := 1) (by decide) dX12_lay_99 ?_
    try unfold C_X12_no at hf
    obtain ⟨⟨fs_r18, ha_r18⟩, hf⟩ := hf
    refine r_invVI (t := 12) (As := [aI 1]) (dz := d) (mz := 0) (sz := 0) rfl wd_7_92 wd_7_94 wd_p_50 cf_X12_no (Nat.le_refl _) (Nat.zero_le _) (Nat.zero_le _) (cat_ok (Nat.le_of_ble_eq_true rfl)) rfl rfl ha_r18 dX12_lay_100 hf (fun r18 σ17 hk => ?_)
    replace hf := hk
    clear hk
    exact r_ireturn rfl dX12_lay_103 rfl ⟨_, rfl, hf⟩
  · replace hf := hf.2 hc
    refine r_aload_n (j := 0) rfl rfl dX12_lay_12 ?_
    refine r_iconst (v := 1) (by decide) dX12_lay_13 ?_
    try unfold C_X12_no at hf
    obtain ⟨⟨fs_r20, ha_r20⟩, hf⟩ := hf
    refine r_invVI (t := 12) (As := [aI 1]) (dz := d) (mz := 0) (sz := 0) rfl wd_7_92 wd_7_94 wd_p_50 cf_X12_no (Nat.le_refl _) (Nat.zero_le _) (Nat.zero_le _) (cat_ok (Nat.le_of_ble_eq_true rfl)) rfl rfl ha_r20 dX12_lay_14 hf (fun r20 σ19 hk => ?_)
    replace hf := hk
    clear hk
    exact r_ireturn rfl dX12_lay_17 rfl ⟨_, rfl, hf⟩
theorem m_X12_lay {l : Launch} {G : GG} {d : Nat} {v0 : Nat} {v1 : Int32} {v2 : Int32} {σ : Hp} {K : Int32 → Hp → Prop} (hr : rv σ v0 12) (hf : F_X12_lay l G d v0 v1 v2 σ K) : C_X12_lay l G (d + 1) v0 v1 v2 σ K := ⟨hr, Sp.of (by decide) (Nat.le_of_ble_eq_true rfl) (b_X12_lay_0 hf) rfl⟩
def F_X12_layOf_28 (l : Launch) (G : GG) (d : Nat) (v0 : Nat) (σ : Hp) (K : Int32 → Hp → Prop) : Prop :=
  C_X12_no l G d v0 1 σ fun r2 σ1 =>
  K r2 σ1
set_option maxRecDepth 100000 in
set_option maxHeartbeats 4000000 in
theorem b_X12_layOf_28 {l : Launch} {G : GG} {d : Nat} {v0 : Nat} {σ : Hp} {K : Int32 → Hp → Prop} (hf : F_X12_layOf_28 l G d v0 σ K) : Wd l G (d + 1) "CoinsLaidModel" yX12_layOf cX12_layOf 7 (some FieldType.int) 28 [(0, aR (some v0))] [] σ 0 0 (xM (QI K)) := by
  unfold F_X12_layOf_28 at hf
  refine r_aload_n (j := 0) rfl rfl dX12_layOf_28 ?_
  refine r_iconst (v := 1) (by decide) dX12_layOf_29 ?_
  try unfold C_X12_no at hf
  obtain ⟨⟨fs_r2, ha_r2⟩, hf⟩ := hf
  refine r_invVI (t := 12) (As := [aI 1]) (dz := d) (mz := 0) (sz := 0) rfl wd_7_92 wd_7_94 wd_p_50 cf_X12_no (Nat.le_refl _) (Nat.zero_le _) (Nat.zero_le _) (cat_ok (Nat.le_of_ble_eq_true rfl)) rfl rfl ha_r2 dX12_layOf_30 hf (fun r2 σ1 hk => ?_)
  replace hf := hk
  clear hk
  exact r_ireturn rfl dX12_layOf_33 rfl ⟨_, rfl, hf⟩
def F_X12_layOf_122 (l : Launch) (G : GG) (d : Nat) (X53 : Nat → Int32 → Int32 → Int32 → Int32 → Int32 → Int32 → Hp → Prop) (v0 : Nat) (v1 : Int32) (v2 : Int32) (v3 : Int32) (v4 : Int32) (v5 : Int32) (v6 : Int32) (σ : Hp) (K : Int32 → Hp → Prop) : Prop :=
  X53 v0 v1 v2 v3 v4 v5 (v6 + 1) σ
set_option maxRecDepth 100000 in
set_option maxHeartbeats 4000000 in
theorem b_X12_layOf_122 {l : Launch} {G : GG} {d : Nat} {X53 : Nat → Int32 → Int32 → Int32 → Int32 → Int32 → Int32 → Hp → Prop} {v0 : Nat} {v1 : Int32} {v2 : Int32} {v3 : Int32} {v4 : Int32} {v5 : Int32} {v6 : Int32} {σ : Hp} {K : Int32 → Hp → Prop} (hX53 : ∀ v0 v1 v2 v3 v4 v5 v6 σ, X53 v0 v1 v2 v3 v4 v5 v6 σ → Wd l G (d + 1) "CoinsLaidModel" yX12_layOf cX12_layOf 7 (some FieldType.int) 53 [(0, aR (some v0)), (1, aI v1), (2, aI v2), (3, aI v3), (4, aI v4), (5, aI v5), (6, aI v6)] [] σ 0 0 (xM (QI K))) (hf : F_X12_layOf_122 l G d X53 v0 v1 v2 v3 v4 v5 v6 σ K) : Wd l G (d + 1) "CoinsLaidModel" yX12_layOf cX12_layOf 7 (some FieldType.int) 122 [(0, aR (some v0)), (1, aI v1), (2, aI v2), (3, aI v3), (4, aI v4), (5, aI v5), (6, aI v6)] [] σ 0 0 (xM (QI K)) := by
  unfold F_X12_layOf_122 at hf
  refine r_iinc (j := 6) (w := (v6 + 1)) (L' := [(6, aI (v6 + 1)), (0, aR (some v0)), (1, aI v1), (2, aI v2), (3, aI v3), (4, aI v4), (5, aI v5)]) rfl (by rfl) rfl (Nat.le_of_ble_eq_true rfl) dX12_layOf_122 ?_
  refine r_goto (tgt := 53) (by decide) dX12_layOf_125 ?_
  exact r_sub [1, 2, 3, 4, 5, 6, 0] rfl (hX53 _ _ _ _ _ _ _ _ hf)
def F_X12_layOf_53 (l : Launch) (G : GG) (d : Nat) (X53 : Nat → Int32 → Int32 → Int32 → Int32 → Int32 → Int32 → Hp → Prop) (v0 : Nat) (v1 : Int32) (v2 : Int32) (v3 : Int32) (v4 : Int32) (v5 : Int32) (v6 : Int32) (σ : Hp) (K : Int32 → Hp → Prop) : Prop :=
  fI σ v0 12 30 fun x3 =>
  ((x3 : Int32) ≤ (v6 : Int32) →
    K (-2) σ) ∧
  (¬ (x3 : Int32) ≤ (v6 : Int32) →
    fN σ v0 12 23 fun x4 =>
    gI σ x4 v6 fun x5 =>
    (¬ (x5 : Int32) = (v1 : Int32) →
      F_X12_layOf_122 l G d X53 v0 v1 v2 v3 v4 v5 v6 σ K) ∧
    ((x5 : Int32) = (v1 : Int32) →
      fN σ v0 12 24 fun x6 =>
      gI σ x6 v6 fun x7 =>
      (¬ (x7 : Int32) = (v2 : Int32) →
        F_X12_layOf_122 l G d X53 v0 v1 v2 v3 v4 v5 v6 σ K) ∧
      ((x7 : Int32) = (v2 : Int32) →
        fN σ v0 12 25 fun x8 =>
        gI σ x8 v6 fun x9 =>
        (¬ (x9 : Int32) = (v3 : Int32) →
          F_X12_layOf_122 l G d X53 v0 v1 v2 v3 v4 v5 v6 σ K) ∧
        ((x9 : Int32) = (v3 : Int32) →
          fN σ v0 12 26 fun x10 =>
          gI σ x10 v6 fun x11 =>
          (¬ (x11 : Int32) = (v4 : Int32) →
            F_X12_layOf_122 l G d X53 v0 v1 v2 v3 v4 v5 v6 σ K) ∧
          ((x11 : Int32) = (v4 : Int32) →
            fN σ v0 12 27 fun x12 =>
            gI σ x12 v6 fun x13 =>
            (¬ (x13 : Int32) = (v5 : Int32) →
              F_X12_layOf_122 l G d X53 v0 v1 v2 v3 v4 v5 v6 σ K) ∧
            ((x13 : Int32) = (v5 : Int32) →
              K v6 σ))))))
set_option maxRecDepth 100000 in
set_option maxHeartbeats 4000000 in
theorem b_X12_layOf_53 {l : Launch} {G : GG} {d : Nat} {X53 : Nat → Int32 → Int32 → Int32 → Int32 → Int32 → Int32 → Hp → Prop} {v0 : Nat} {v1 : Int32} {v2 : Int32} {v3 : Int32} {v4 : Int32} {v5 : Int32} {v6 : Int32} {σ : Hp} {K : Int32 → Hp → Prop} (hX53 : ∀ v0 v1 v2 v3 v4 v5 v6 σ, X53 v0 v1 v2 v3 v4 v5 v6 σ → Wd l G (d + 1) "CoinsLaidModel" yX12_layOf cX12_layOf 7 (some FieldType.int) 53 [(0, aR (some v0)), (1, aI v1), (2, aI v2), (3, aI v3), (4, aI v4), (5, aI v5), (6, aI v6)] [] σ 0 0 (xM (QI K))) (hf : F_X12_layOf_53 l G d X53 v0 v1 v2 v3 v4 v5 v6 σ K) : Wd l G (d + 1) "CoinsLaidModel" yX12_layOf cX12_layOf 7 (some FieldType.int) 53 [(0, aR (some v0)), (1, aI v1), (2, aI v2), (3, aI v3), (4, aI v4), (5, aI v5), (6, aI v6)] [] σ 0 0 (xM (QI K)) := by
  unfold F_X12_layOf_53 at hf
  refine r_iload (j := 6) rfl dX12_layOf_53 ?_
  refine r_aload_n (j := 0) rfl rfl dX12_layOf_55 ?_
  obtain ⟨fs_x3, x3, ha_x3, hv_x3, hf⟩ := hf
  refine r_get (Cn := RX12) (Tt := TX12) (N := 42) (n := 30) rfl uw_X12 (Nat.le_of_ble_eq_true rfl) wd_6_216 ha_x3 hv_x3 dX12_layOf_56 ?_
  refine r_icmpge (x := v6) (y := x3) (tgt := 128) (by decide) dX12_layOf_59 (fun hc => ?_) (fun hc => ?_)
  · replace hf := hf.1 hc
    refine r_bipush (v := (-2)) (by decide) dX12_layOf_128 ?_
    exact r_ireturn rfl dX12_layOf_130 rfl ⟨_, rfl, hf⟩
  · replace hf := hf.2 hc
    refine r_aload_n (j := 0) rfl rfl dX12_layOf_62 ?_
    obtain ⟨fs_x4, x4, ha_x4, hv_x4, hf⟩ := hf
    refine r_get (Cn := RX12) (Tt := TX12) (N := 42) (n := 23) rfl uw_X12 (Nat.le_of_ble_eq_true rfl) wd_6_209 ha_x4 hv_x4 dX12_layOf_63 ?_
    refine r_iload (j := 6) rfl dX12_layOf_66 ?_
    obtain ⟨N_x5, f_x5, ha_x5, hi_x5, hf⟩ := hf
    refine r_iald ha_x5 hi_x5 dX12_layOf_68 ?_
    generalize f_x5 (v6 : Int32).toNatClampNeg = x5 at hf ⊢
    refine r_iload_n (j := 1) rfl rfl dX12_layOf_69 ?_
    refine r_icmpne (x := x5) (y := v1) (tgt := 122) (by decide) dX12_layOf_70 (fun hc => ?_) (fun hc => ?_)
    · replace hf := hf.1 hc
      exact r_sub [0, 1, 2, 3, 4, 5, 6] rfl (b_X12_layOf_122 hX53 hf)
    · replace hf := hf.2 hc
      refine r_aload_n (j := 0) rfl rfl dX12_layOf_73 ?_
      obtain ⟨fs_x6, x6, ha_x6, hv_x6, hf⟩ := hf
      refine r_get (Cn := RX12) (Tt := TX12) (N := 42) (n := 24) rfl uw_X12 (Nat.le_of_ble_eq_true rfl) wd_6_210 ha_x6 hv_x6 dX12_layOf_74 ?_
      refine r_iload (j := 6) rfl dX12_layOf_77 ?_
      obtain ⟨N_x7, f_x7, ha_x7, hi_x7, hf⟩ := hf
      refine r_iald ha_x7 hi_x7 dX12_layOf_79 ?_
      generalize f_x7 (v6 : Int32).toNatClampNeg = x7 at hf ⊢
      refine r_iload_n (j := 2) rfl rfl dX12_layOf_80 ?_
      refine r_icmpne (x := x7) (y := v2) (tgt := 122) (by decide) dX12_layOf_81 (fun hc => ?_) (fun hc => ?_)
      · replace hf := hf.1 hc
        exact r_sub [0, 1, 2, 3, 4, 5, 6] rfl (b_X12_layOf_122 hX53 hf)
      · replace hf := hf.2 hc
        refine r_aload_n (j := 0) rfl rfl dX12_layOf_84 ?_
        obtain ⟨fs_x8, x8, ha_x8, hv_x8, hf⟩ := hf
        refine r_get (Cn := RX12) (Tt := TX12) (N := 42) (n := 25) rfl uw_X12 (Nat.le_of_ble_eq_true rfl) wd_6_211 ha_x8 hv_x8 dX12_layOf_85 ?_
        refine r_iload (j := 6) rfl dX12_layOf_88 ?_
        obtain ⟨N_x9, f_x9, ha_x9, hi_x9, hf⟩ := hf
        refine r_iald ha_x9 hi_x9 dX12_layOf_90 ?_
        generalize f_x9 (v6 : Int32).toNatClampNeg = x9 at hf ⊢
        refine r_iload_n (j := 3) rfl rfl dX12_layOf_91 ?_
        refine r_icmpne (x := x9) (y := v3) (tgt := 122) (by decide) dX12_layOf_92 (fun hc => ?_) (fun hc => ?_)
        · replace hf := hf.1 hc
          exact r_sub [0, 1, 2, 3, 4, 5, 6] rfl (b_X12_layOf_122 hX53 hf)
        · replace hf := hf.2 hc
          refine r_aload_n (j := 0) rfl rfl dX12_layOf_95 ?_
          obtain ⟨fs_x10, x10, ha_x10, hv_x10, hf⟩ := hf
          refine r_get (Cn := RX12) (Tt := TX12) (N := 42) (n := 26) rfl uw_X12 (Nat.le_of_ble_eq_true rfl) wd_6_212 ha_x10 hv_x10 dX12_layOf_96 ?_
          refine r_iload (j := 6) rfl dX12_layOf_99 ?_
          obtain ⟨N_x11, f_x11, ha_x11, hi_x11, hf⟩ := hf
          refine r_iald ha_x11 hi_x11 dX12_layOf_101 ?_
          generalize f_x11 (v6 : Int32).toNatClampNeg = x11 at hf ⊢
          refine r_iload (j := 4) rfl dX12_layOf_102 ?_
          refine r_icmpne (x := x11) (y := v4) (tgt := 122) (by decide) dX12_layOf_104 (fun hc => ?_) (fun hc => ?_)
          · replace hf := hf.1 hc
            exact r_sub [0, 1, 2, 3, 4, 5, 6] rfl (b_X12_layOf_122 hX53 hf)
          · replace hf := hf.2 hc
            refine r_aload_n (j := 0) rfl rfl dX12_layOf_107 ?_
            obtain ⟨fs_x12, x12, ha_x12, hv_x12, hf⟩ := hf
            refine r_get (Cn := RX12) (Tt := TX12) (N := 42) (n := 27) rfl uw_X12 (Nat.le_of_ble_eq_true rfl) wd_6_213 ha_x12 hv_x12 dX12_layOf_108 ?_
            refine r_iload (j := 6) rfl dX12_layOf_111 ?_
            obtain ⟨N_x13, f_x13, ha_x13, hi_x13, hf⟩ := hf
            refine r_iald ha_x13 hi_x13 dX12_layOf_113 ?_
            generalize f_x13 (v6 : Int32).toNatClampNeg = x13 at hf ⊢
            refine r_iload (j := 5) rfl dX12_layOf_114 ?_
            refine r_icmpne (x := x13) (y := v5) (tgt := 122) (by decide) dX12_layOf_116 (fun hc => ?_) (fun hc => ?_)
            · replace hf := hf.1 hc
              exact r_sub [0, 1, 2, 3, 4, 5, 6] rfl (b_X12_layOf_122 hX53 hf)
            · replace hf := hf.2 hc
              refine r_iload (j := 6) rfl dX12_layOf_119 ?_
              exact r_ireturn rfl dX12_layOf_121 rfl ⟨_, rfl, hf⟩
def Z_X12_layOf_53 (l : Launch) (G : GG) (d : Nat) (K : Int32 → Hp → Prop) : Nat → Nat → Int32 → Int32 → Int32 → Int32 → Int32 → Int32 → Hp → Prop
  | 0 => fun _ _ _ _ _ _ _ _ => False
  | n + 1 => fun v0 v1 v2 v3 v4 v5 v6 σ => F_X12_layOf_53 l G d (Z_X12_layOf_53 l G d K n) v0 v1 v2 v3 v4 v5 v6 σ K
theorem z_X12_layOf_53 {l : Launch} {G : GG} {d : Nat} {K : Int32 → Hp → Prop} : ∀ (n : Nat) v0 v1 v2 v3 v4 v5 v6 σ, Z_X12_layOf_53 l G d K n v0 v1 v2 v3 v4 v5 v6 σ → Wd l G (d + 1) "CoinsLaidModel" yX12_layOf cX12_layOf 7 (some FieldType.int) 53 [(0, aR (some v0)), (1, aI v1), (2, aI v2), (3, aI v3), (4, aI v4), (5, aI v5), (6, aI v6)] [] σ 0 0 (xM (QI K)) := by
  intro n
  induction n with
  | zero => intro v0 v1 v2 v3 v4 v5 v6 σ hf; exact hf.elim
  | succ n ih => intro v0 v1 v2 v3 v4 v5 v6 σ hf; exact b_X12_layOf_53 ih hf
def F_X12_layOf (l : Launch) (G : GG) (d : Nat) (v0 : Nat) (v1 : Int32) (v2 : Int32) (v3 : Int32) (v4 : Int32) (v5 : Int32) (σ : Hp) (K : Int32 → Hp → Prop) : Prop :=
  C_X12_clear l G d v0 σ fun σ14 =>
  C_X12_isBoard l G d v0 v2 σ14 fun r17 σ16 =>
  (r17 = false →
    F_X12_layOf_28 l G d v0 σ16 K) ∧
  (r17 = true →
    fN σ16 v0 12 15 fun x18 =>
    gI σ16 x18 4 fun x19 =>
    C_X12_within l G d v1 0 (x19 - 1) σ16 fun r21 σ20 =>
    (r21 = true →
      C_X12_within l G d v5 0 3 σ20 fun r23 σ22 =>
      (r23 = true →
        ∃ n, Z_X12_layOf_53 l G d K n v0 v1 v2 v3 v4 v5 0 σ22) ∧
      (r23 = false →
        C_X12_no l G d v0 2 σ22 fun r25 σ24 =>
        K r25 σ24)) ∧
    (r21 = false →
      F_X12_layOf_28 l G d v0 σ20 K))
set_option maxRecDepth 100000 in
set_option maxHeartbeats 4000000 in
theorem b_X12_layOf_0 {l : Launch} {G : GG} {d : Nat} {v0 : Nat} {v1 : Int32} {v2 : Int32} {v3 : Int32} {v4 : Int32} {v5 : Int32} {σ : Hp} {K : Int32 → Hp → Prop} (hf : F_X12_layOf l G d v0 v1 v2 v3 v4 v5 σ K) : Wd l G (d + 1) "CoinsLaidModel" yX12_layOf cX12_layOf 7 (some FieldType.int) 0 [(0, aR (some v0)), (1, aI v1), (2, aI v2), (3, aI v3), (4, aI v4), (5, aI v5)] [] σ 0 0 (xM (QI K)) := by
  unfold F_X12_layOf at hf
  refine r_aload_n (j := 0) rfl rfl dX12_layOf_0 ?_
  try unfold C_X12_clear at hf
  obtain ⟨⟨fs_r15, ha_r15⟩, hf⟩ := hf
  refine r_invVU (t := 12) (As := []) (dz := d) (mz := 0) (sz := 0) rfl wd_7_85 wd_7_87 wd_p_49 cf_X12_clear (Nat.le_refl _) (Nat.zero_le _) (Nat.zero_le _) (cat_ok (Nat.le_of_ble_eq_true rfl)) rfl rfl ha_r15 dX12_layOf_1 hf (fun σ14 hk => ?_)
  replace hf := hk
  clear hk
  refine r_aload_n (j := 0) rfl rfl dX12_layOf_4 ?_
  refine r_iload_n (j := 2) rfl rfl dX12_layOf_5 ?_
  try unfold C_X12_isBoard at hf
  obtain ⟨⟨fs_r17, ha_r17⟩, hf⟩ := hf
  refine r_invVZ (t := 12) (As := [aI v2]) (dz := d) (mz := 0) (sz := 0) rfl wd_8_18 wd_8_20 wd_p_76 cf_X12_isBoard (Nat.le_refl _) (Nat.zero_le _) (Nat.zero_le _) (cat_ok (Nat.le_of_ble_eq_true rfl)) rfl rfl ha_r17 dX12_layOf_6 hf (fun r17 σ16 hk => ?_)
  replace hf := hk
  clear hk
  refine r_ifeqZ (b := r17) (tgt := 28) (by decide) dX12_layOf_9 (fun hc => ?_) (fun hc => ?_)
  · replace hf := hf.1 hc
    exact r_sub [0] rfl (b_X12_layOf_28 hf)
  · replace hf := hf.2 hc
    refine r_iload_n (j := 1) rfl rfl dX12_layOf_12 ?_
    refine r_iconst (v := 0) (by decide) dX12_layOf_13 ?_
    refine r_aload_n (j := 0) rfl rfl dX12_layOf_14 ?_
    obtain ⟨fs_x18, x18, ha_x18, hv_x18, hf⟩ := hf
    refine r_get (Cn := RX12) (Tt := TX12) (N := 42) (n := 15) rfl uw_X12 (Nat.le_of_ble_eq_true rfl) wd_6_201 ha_x18 hv_x18 dX12_layOf_15 ?_
    refine r_iconst (v := 4) (by decide) dX12_layOf_18 ?_
    obtain ⟨N_x19, f_x19, ha_x19, hi_x19, hf⟩ := hf
    refine r_iald ha_x19 hi_x19 dX12_layOf_19 ?_
    generalize f_x19 (4 : Int32).toNatClampNeg = x19 at hf ⊢
    refine r_iconst (v := 1) (by decide) dX12_layOf_20 ?_
    refine r_isub (x := x19) (y := 1) dX12_layOf_21 ?_
    try unfold C_X12_within at hf
    refine r_invSZ (As := [aI v1, aI 0, aI (x19 - 1)]) (dz := d) (mz := 0) (sz := 0) rfl wd_7_89 wd_7_90 cf_X12_within (Nat.le_refl _) (Nat.zero_le _) (Nat.zero_le _) (cat_ok (Nat.le_of_ble_eq_true rfl)) dX12_layOf_22 hf (fun r21 σ20 hk => ?_)
    replace hf := hk
    clear hk
    refine r_ifneZ (b := r21) (tgt := 34) (by decide) dX12_layOf_25 (fun hc => ?_) (fun hc => ?_)
    · replace hf := hf.1 hc
      refine r_iload (j := 5) rfl dX12_layOf_34 ?_
      refine r_iconst (v := 0) (by decide) dX12_layOf_36 ?_
      refine r_iconst (v := 3) (by decide) dX12_layOf_37 ?_
      try unfold C_X12_within at hf
      refine r_invSZ (As := [aI v5, aI 0, aI 3]) (dz := d) (mz := 0) (sz := 0) rfl wd_7_89 wd_7_90 cf_X12_within (Nat.le_refl _) (Nat.zero_le _) (Nat.zero_le _) (cat_ok (Nat.le_of_ble_eq_true rfl)) dX12_layOf_38 hf (fun r23 σ22 hk => ?_)
      replace hf := hk
      clear hk
      refine r_ifneZ (b := r23) (tgt := 50) (by decide) dX12_layOf_41 (fun hc => ?_) (fun hc => ?_)
      · replace hf := hf.1 hc
        refine r_iconst (v := 0) (by decide) dX12_layOf_50 ?_
        refine r_istore (L' := [(6, aI 0), (0, aR (some v0)), (1, aI v1), (2, aI v2), (3, aI v3), (4, aI v4), (5, aI v5)]) rfl (Nat.le_of_ble_eq_true rfl) dX12_layOf_51 ?_
        obtain ⟨n, hf⟩ := hf
        exact r_sub [1, 2, 3, 4, 5, 6, 0] rfl (z_X12_layOf_53 n _ _ _ _ _ _ _ _ hf)
      · replace hf := hf.2 hc
        refine r_aload_n (j := 0) rfl rfl dX12_layOf_44 ?_
        refine r_iconst (v := 2) (by decide) dX12_layOf_45 ?_
        try unfold C_X12_no at hf
        obtain ⟨⟨fs_r25, ha_r25⟩, hf⟩ := hf
        refine r_invVI (t := 12) (As := [aI 2]) (dz := d) (mz := 0) (sz := 0) rfl wd_7_92 wd_7_94 wd_p_50 cf_X12_no (Nat.le_refl _) (Nat.zero_le _) (Nat.zero_le _) (cat_ok (Nat.le_of_ble_eq_true rfl)) rfl rfl ha_r25 dX12_layOf_46 hf (fun r25 σ24 hk => ?_)
        replace hf := hk
        clear hk
        exact r_ireturn rfl dX12_layOf_49 rfl ⟨_, rfl, hf⟩
    · replace hf := hf.2 hc
      exact r_sub [0] rfl (b_X12_layOf_28 hf)
theorem m_X12_layOf {l : Launch} {G : GG} {d : Nat} {v0 : Nat} {v1 : Int32} {v2 : Int32} {v3 : Int32} {v4 : Int32} {v5 : Int32} {σ : Hp} {K : Int32 → Hp → Prop} (hr : rv σ v0 12) (hf : F_X12_layOf l G d v0 v1 v2 v3 v4 v5 σ K) : C_X12_layOf l G (d + 1) v0 v1 v2 v3 v4 v5 σ K := ⟨hr, Sp.of (by decide) (Nat.le_of_ble_eq_true rfl) (b_X12_layOf_0 hf) rfl⟩
def F_X12_may_37 (l : Launch) (G : GG) (d : Nat) (s0 : Int32) (σ : Hp) (K : Int32 → Hp → Prop) : Prop :=
  K s0 σ
set_option maxRecDepth 100000 in
set_option maxHeartbeats 4000000 in
theorem b_X12_may_37 {l : Launch} {G : GG} {d : Nat} {s0 : Int32} {σ : Hp} {K : Int32 → Hp → Prop} (hf : F_X12_may_37 l G d s0 σ K) : Wd l G (d + 1) "CoinsLaidModel" yX12_may cX12_may 2 (some FieldType.int) 37 [] [aI s0] σ 0 0 (xM (QI K)) := by
  unfold F_X12_may_37 at hf
  exact r_ireturn rfl dX12_may_37 rfl ⟨_, rfl, hf⟩
def F_X12_may (l : Launch) (G : GG) (d : Nat) (v0 : Nat) (v1 : Int32) (σ : Hp) (K : Int32 → Hp → Prop) : Prop :=
  C_X12_clear l G d v0 σ fun σ1 =>
  C_X12_isLay l G d v0 v1 σ1 fun r4 σ3 =>
  (r4 = false →
    C_X12_no l G d v0 1 σ3 fun r6 σ5 =>
    F_X12_may_37 l G d r6 σ5 K) ∧
  (r4 = true →
    C_X12_standNow l G d v0 σ3 fun r8 σ7 =>
    C_X12_mayBe l G d v0 r8 v1 σ7 fun r10 σ9 =>
    (r10 = false →
      F_X12_may_37 l G d 0 σ9 K) ∧
    (r10 = true →
      F_X12_may_37 l G d 1 σ9 K))
set_option maxRecDepth 100000 in
set_option maxHeartbeats 4000000 in
theorem b_X12_may_0 {l : Launch} {G : GG} {d : Nat} {v0 : Nat} {v1 : Int32} {σ : Hp} {K : Int32 → Hp → Prop} (hf : F_X12_may l G d v0 v1 σ K) : Wd l G (d + 1) "CoinsLaidModel" yX12_may cX12_may 2 (some FieldType.int) 0 [(0, aR (some v0)), (1, aI v1)] [] σ 0 0 (xM (QI K)) := by
  unfold F_X12_may at hf
  refine r_aload_n (j := 0) rfl rfl dX12_may_0 ?_
  try unfold C_X12_clear at hf
  obtain ⟨⟨fs_r2, ha_r2⟩, hf⟩ := hf
  refine r_invVU (t := 12) (As := []) (dz := d) (mz := 0) (sz := 0) rfl wd_7_85 wd_7_87 wd_p_49 cf_X12_clear (Nat.le_refl _) (Nat.zero_le _) (Nat.zero_le _) (cat_ok (Nat.le_of_ble_eq_true rfl)) rfl rfl ha_r2 dX12_may_1 hf (fun σ1 hk => ?_)
  replace hf := hk
  clear hk
  refine r_aload_n (j := 0) rfl rfl dX12_may_4 ?_
  refine r_iload_n (j := 1) rfl rfl dX12_may_5 ?_
  try unfold C_X12_isLay at hf
  obtain ⟨⟨fs_r4, ha_r4⟩, hf⟩ := hf
  refine r_invVZ (t := 12) (As := [aI v1]) (dz := d) (mz := 0) (sz := 0) rfl wd_8_10 wd_8_12 wd_p_75 cf_X12_isLay (Nat.le_refl _) (Nat.zero_le _) (Nat.zero_le _) (cat_ok (Nat.le_of_ble_eq_true rfl)) rfl rfl ha_r4 dX12_may_6 hf (fun r4 σ3 hk => ?_)
  replace hf := hk
  clear hk
  refine r_ifeqZ (b := r4) (tgt := 32) (by decide) dX12_may_9 (fun hc => ?_) (fun hc => ?_)
  · replace hf := hf.1 hc
    refine r_aload_n (j := 0) rfl rfl dX12_may_32 ?_
    refine r_iconst (v := 1) (by decide) dX12_may_33 ?_
    try unfold C_X12_no at hf
    obtain ⟨⟨fs_r6, ha_r6⟩, hf⟩ := hf
    refine r_invVI (t := 12) (As := [aI 1]) (dz := d) (mz := 0) (sz := 0) rfl wd_7_92 wd_7_94 wd_p_50 cf_X12_no (Nat.le_refl _) (Nat.zero_le _) (Nat.zero_le _) (cat_ok (Nat.le_of_ble_eq_true rfl)) rfl rfl ha_r6 dX12_may_34 hf (fun r6 σ5 hk => ?_)
    replace hf := hk
    clear hk
    exact r_sub [] rfl (b_X12_may_37 hf)
  · replace hf := hf.2 hc
    refine r_aload_n (j := 0) rfl rfl dX12_may_12 ?_
    refine r_aload_n (j := 0) rfl rfl dX12_may_13 ?_
    try unfold C_X12_standNow at hf
    obtain ⟨⟨fs_r8, ha_r8⟩, hf⟩ := hf
    refine r_invVI (t := 12) (As := []) (dz := d) (mz := 0) (sz := 0) rfl wd_8_26 wd_8_28 wd_p_77 cf_X12_standNow (Nat.le_refl _) (Nat.zero_le _) (Nat.zero_le _) (cat_ok (Nat.le_of_ble_eq_true rfl)) rfl rfl ha_r8 dX12_may_14 hf (fun r8 σ7 hk => ?_)
    replace hf := hk
    clear hk
    refine r_iload_n (j := 1) rfl rfl dX12_may_17 ?_
    try unfold C_X12_mayBe at hf
    obtain ⟨⟨fs_r10, ha_r10⟩, hf⟩ := hf
    refine r_invVZ (t := 12) (As := [aI r8, aI v1]) (dz := d) (mz := 0) (sz := 0) rfl wd_8_30 wd_8_32 wd_p_78 cf_X12_mayBe (Nat.le_refl _) (Nat.zero_le _) (Nat.zero_le _) (cat_ok (Nat.le_of_ble_eq_true rfl)) rfl rfl ha_r10 dX12_may_18 hf (fun r10 σ9 hk => ?_)
    replace hf := hk
    clear hk
    refine r_ifeqZ (b := r10) (tgt := 28) (by decide) dX12_may_21 (fun hc => ?_) (fun hc => ?_)
    · replace hf := hf.1 hc
      refine r_iconst (v := 0) (by decide) dX12_may_28 ?_
      refine r_goto (tgt := 37) (by decide) dX12_may_29 ?_
      exact r_sub [] rfl (b_X12_may_37 hf)
    · replace hf := hf.2 hc
      refine r_iconst (v := 1) (by decide) dX12_may_24 ?_
      refine r_goto (tgt := 37) (by decide) dX12_may_25 ?_
      exact r_sub [] rfl (b_X12_may_37 hf)
theorem m_X12_may {l : Launch} {G : GG} {d : Nat} {v0 : Nat} {v1 : Int32} {σ : Hp} {K : Int32 → Hp → Prop} (hr : rv σ v0 12) (hf : F_X12_may l G d v0 v1 σ K) : C_X12_may l G (d + 1) v0 v1 σ K := ⟨hr, Sp.of (by decide) (Nat.le_of_ble_eq_true rfl) (b_X12_may_0 hf) rfl⟩
def F_X12_lays_27 (l : Launch) (G : GG) (d : Nat) (s0 : Int32) (σ : Hp) (K : Int32 → Hp → Prop) : Prop :=
  K s0 σ
set_option maxRecDepth 100000 in
set_option maxHeartbeats 4000000 in
theorem b_X12_lays_27 {l : Launch} {G : GG} {d : Nat} {s0 : Int32} {σ : Hp} {K : Int32 → Hp → Prop} (hf : F_X12_lays_27 l G d s0 σ K) : Wd l G (d + 1) "CoinsLaidModel" yX12_lays cX12_lays 1 (some FieldType.int) 27 [] [aI s0] σ 0 0 (xM (QI K)) := by
  unfold F_X12_lays_27 at hf
  exact r_ireturn rfl dX12_lays_27 rfl ⟨_, rfl, hf⟩
def F_X12_lays (l : Launch) (G : GG) (d : Nat) (v0 : Nat) (σ : Hp) (K : Int32 → Hp → Prop) : Prop :=
  C_X12_clear l G d v0 σ fun σ1 =>
  fZ σ1 v0 12 14 fun x3 =>
  (x3 = false →
    C_X12_no l G d v0 1 σ1 fun r5 σ4 =>
    F_X12_lays_27 l G d r5 σ4 K) ∧
  (x3 = true →
    C_X12_standNow l G d v0 σ1 fun r7 σ6 =>
    C_X12_manyMay l G d v0 r7 σ6 fun r9 σ8 =>
    F_X12_lays_27 l G d r9 σ8 K)
set_option maxRecDepth 100000 in
set_option maxHeartbeats 4000000 in
theorem b_X12_lays_0 {l : Launch} {G : GG} {d : Nat} {v0 : Nat} {σ : Hp} {K : Int32 → Hp → Prop} (hf : F_X12_lays l G d v0 σ K) : Wd l G (d + 1) "CoinsLaidModel" yX12_lays cX12_lays 1 (some FieldType.int) 0 [(0, aR (some v0))] [] σ 0 0 (xM (QI K)) := by
  unfold F_X12_lays at hf
  refine r_aload_n (j := 0) rfl rfl dX12_lays_0 ?_
  try unfold C_X12_clear at hf
  obtain ⟨⟨fs_r2, ha_r2⟩, hf⟩ := hf
  refine r_invVU (t := 12) (As := []) (dz := d) (mz := 0) (sz := 0) rfl wd_7_85 wd_7_87 wd_p_49 cf_X12_clear (Nat.le_refl _) (Nat.zero_le _) (Nat.zero_le _) (cat_ok (Nat.le_of_ble_eq_true rfl)) rfl rfl ha_r2 dX12_lays_1 hf (fun σ1 hk => ?_)
  replace hf := hk
  clear hk
  refine r_aload_n (j := 0) rfl rfl dX12_lays_4 ?_
  obtain ⟨fs_x3, x3, ha_x3, hv_x3, hf⟩ := hf
  refine r_get (Cn := RX12) (Tt := TX12) (N := 42) (n := 14) rfl uw_X12 (Nat.le_of_ble_eq_true rfl) wd_6_200 ha_x3 hv_x3 dX12_lays_5 ?_
  refine r_ifeqZ (b := x3) (tgt := 22) (by decide) dX12_lays_8 (fun hc => ?_) (fun hc => ?_)
  · replace hf := hf.1 hc
    refine r_aload_n (j := 0) rfl rfl dX12_lays_22 ?_
    refine r_iconst (v := 1) (by decide) dX12_lays_23 ?_
    try unfold C_X12_no at hf
    obtain ⟨⟨fs_r5, ha_r5⟩, hf⟩ := hf
    refine r_invVI (t := 12) (As := [aI 1]) (dz := d) (mz := 0) (sz := 0) rfl wd_7_92 wd_7_94 wd_p_50 cf_X12_no (Nat.le_refl _) (Nat.zero_le _) (Nat.zero_le _) (cat_ok (Nat.le_of_ble_eq_true rfl)) rfl rfl ha_r5 dX12_lays_24 hf (fun r5 σ4 hk => ?_)
    replace hf := hk
    clear hk
    exact r_sub [] rfl (b_X12_lays_27 hf)
  · replace hf := hf.2 hc
    refine r_aload_n (j := 0) rfl rfl dX12_lays_11 ?_
    refine r_aload_n (j := 0) rfl rfl dX12_lays_12 ?_
    try unfold C_X12_standNow at hf
    obtain ⟨⟨fs_r7, ha_r7⟩, hf⟩ := hf
    refine r_invVI (t := 12) (As := []) (dz := d) (mz := 0) (sz := 0) rfl wd_8_26 wd_8_28 wd_p_77 cf_X12_standNow (Nat.le_refl _) (Nat.zero_le _) (Nat.zero_le _) (cat_ok (Nat.le_of_ble_eq_true rfl)) rfl rfl ha_r7 dX12_lays_13 hf (fun r7 σ6 hk => ?_)
    replace hf := hk
    clear hk
    try unfold C_X12_manyMay at hf
    obtain ⟨⟨fs_r9, ha_r9⟩, hf⟩ := hf
    refine r_invVI (t := 12) (As := [aI r7]) (dz := d) (mz := 0) (sz := 0) rfl wd_8_44 wd_8_46 wd_p_79 cf_X12_manyMay (Nat.le_refl _) (Nat.zero_le _) (Nat.zero_le _) (cat_ok (Nat.le_of_ble_eq_true rfl)) rfl rfl ha_r9 dX12_lays_16 hf (fun r9 σ8 hk => ?_)
    replace hf := hk
    clear hk
    refine r_goto (tgt := 27) (by decide) dX12_lays_19 ?_
    exact r_sub [] rfl (b_X12_lays_27 hf)
theorem m_X12_lays {l : Launch} {G : GG} {d : Nat} {v0 : Nat} {σ : Hp} {K : Int32 → Hp → Prop} (hr : rv σ v0 12) (hf : F_X12_lays l G d v0 σ K) : C_X12_lays l G (d + 1) v0 σ K := ⟨hr, Sp.of (by decide) (Nat.le_of_ble_eq_true rfl) (b_X12_lays_0 hf) rfl⟩
def F_X12_layAt_45 (l : Launch) (G : GG) (d : Nat) (s0 : Int32) (σ : Hp) (K : Int32 → Hp → Prop) : Prop :=
  K s0 σ
set_option maxRecDepth 100000 in
set_option maxHeartbeats 4000000 in
theorem b_X12_layAt_45 {l : Launch} {G : GG} {d : Nat} {s0 : Int32} {σ : Hp} {K : Int32 → Hp → Prop} (hf : F_X12_layAt_45 l G d s0 σ K) : Wd l G (d + 1) "CoinsLaidModel" yX12_layAt cX12_layAt 3 (some FieldType.int) 45 [] [aI s0] σ 0 0 (xM (QI K)) := by
  unfold F_X12_layAt_45 at hf
  exact r_ireturn rfl dX12_layAt_45 rfl ⟨_, rfl, hf⟩
def F_X12_layAt_29 (l : Launch) (G : GG) (d : Nat) (v0 : Nat) (s0 : Int32) (σ : Hp) (K : Int32 → Hp → Prop) : Prop :=
  (¬ (s0 : Int32) = ((-2) : Int32) →
    F_X12_layAt_45 l G d s0 σ K) ∧
  ((s0 : Int32) = ((-2) : Int32) →
    C_X12_no l G d v0 1 σ fun r2 σ1 =>
    F_X12_layAt_45 l G d r2 σ1 K)
set_option maxRecDepth 100000 in
set_option maxHeartbeats 4000000 in
theorem b_X12_layAt_29 {l : Launch} {G : GG} {d : Nat} {v0 : Nat} {s0 : Int32} {σ : Hp} {K : Int32 → Hp → Prop} (hf : F_X12_layAt_29 l G d v0 s0 σ K) : Wd l G (d + 1) "CoinsLaidModel" yX12_layAt cX12_layAt 3 (some FieldType.int) 29 [(0, aR (some v0))] [aI s0] σ 0 0 (xM (QI K)) := by
  unfold F_X12_layAt_29 at hf
  refine r_istore_n (L' := [(2, aI s0), (0, aR (some v0))]) rfl rfl (Nat.le_of_ble_eq_true rfl) dX12_layAt_29 ?_
  refine r_iload_n (j := 0) rfl rfl dX12_layAt_30 ?_
  refine r_bipush (v := (-2)) (by decide) dX12_layAt_31 ?_
  refine r_icmpne (x := s0) (y := (-2)) (tgt := 44) (by decide) dX12_layAt_33 (fun hc => ?_) (fun hc => ?_)
  · replace hf := hf.1 hc
    refine r_iload_n (j := 0) rfl rfl dX12_layAt_44 ?_
    exact r_sub [] rfl (b_X12_layAt_45 hf)
  · replace hf := hf.2 hc
    refine r_aload_n (j := 1) rfl rfl dX12_layAt_36 ?_
    refine r_iconst (v := 1) (by decide) dX12_layAt_37 ?_
    try unfold C_X12_no at hf
    obtain ⟨⟨fs_r2, ha_r2⟩, hf⟩ := hf
    refine r_invVI (t := 12) (As := [aI 1]) (dz := d) (mz := 0) (sz := 0) rfl wd_7_92 wd_7_94 wd_p_50 cf_X12_no (Nat.le_refl _) (Nat.zero_le _) (Nat.zero_le _) (cat_ok (Nat.le_of_ble_eq_true rfl)) rfl rfl ha_r2 dX12_layAt_38 hf (fun r2 σ1 hk => ?_)
    replace hf := hk
    clear hk
    refine r_goto (tgt := 45) (by decide) dX12_layAt_41 ?_
    exact r_sub [] rfl (b_X12_layAt_45 hf)
def F_X12_layAt_27 (l : Launch) (G : GG) (d : Nat) (v0 : Nat) (σ : Hp) (K : Int32 → Hp → Prop) : Prop :=
  F_X12_layAt_29 l G d v0 (-2) σ K
set_option maxRecDepth 100000 in
set_option maxHeartbeats 4000000 in
theorem b_X12_layAt_27 {l : Launch} {G : GG} {d : Nat} {v0 : Nat} {σ : Hp} {K : Int32 → Hp → Prop} (hf : F_X12_layAt_27 l G d v0 σ K) : Wd l G (d + 1) "CoinsLaidModel" yX12_layAt cX12_layAt 3 (some FieldType.int) 27 [(0, aR (some v0))] [] σ 0 0 (xM (QI K)) := by
  unfold F_X12_layAt_27 at hf
  refine r_bipush (v := (-2)) (by decide) dX12_layAt_27 ?_
  exact r_sub [0] rfl (b_X12_layAt_29 hf)
def F_X12_layAt (l : Launch) (G : GG) (d : Nat) (v0 : Nat) (v1 : Int32) (σ : Hp) (K : Int32 → Hp → Prop) : Prop :=
  C_X12_clear l G d v0 σ fun σ3 =>
  fZ σ3 v0 12 14 fun x5 =>
  (x5 = false →
    F_X12_layAt_27 l G d v0 σ3 K) ∧
  (x5 = true →
    ((v1 : Int32) < 0 →
      F_X12_layAt_27 l G d v0 σ3 K) ∧
    (¬ (v1 : Int32) < 0 →
      C_X12_standNow l G d v0 σ3 fun r7 σ6 =>
      C_X12_mayAt l G d v0 r7 v1 σ6 fun r9 σ8 =>
      F_X12_layAt_29 l G d v0 r9 σ8 K))
set_option maxRecDepth 100000 in
set_option maxHeartbeats 4000000 in
theorem b_X12_layAt_0 {l : Launch} {G : GG} {d : Nat} {v0 : Nat} {v1 : Int32} {σ : Hp} {K : Int32 → Hp → Prop} (hf : F_X12_layAt l G d v0 v1 σ K) : Wd l G (d + 1) "CoinsLaidModel" yX12_layAt cX12_layAt 3 (some FieldType.int) 0 [(0, aR (some v0)), (1, aI v1)] [] σ 0 0 (xM (QI K)) := by
  unfold F_X12_layAt at hf
  refine r_aload_n (j := 0) rfl rfl dX12_layAt_0 ?_
  try unfold C_X12_clear at hf
  obtain ⟨⟨fs_r4, ha_r4⟩, hf⟩ := hf
  refine r_invVU (t := 12) (As := []) (dz := d) (mz := 0) (sz := 0) rfl wd_7_85 wd_7_87 wd_p_49 cf_X12_clear (Nat.le_refl _) (Nat.zero_le _) (Nat.zero_le _) (cat_ok (Nat.le_of_ble_eq_true rfl)) rfl rfl ha_r4 dX12_layAt_1 hf (fun σ3 hk => ?_)
  replace hf := hk
  clear hk
  refine r_aload_n (j := 0) rfl rfl dX12_layAt_4 ?_
  obtain ⟨fs_x5, x5, ha_x5, hv_x5, hf⟩ := hf
  refine r_get (Cn := RX12) (Tt := TX12) (N := 42) (n := 14) rfl uw_X12 (Nat.le_of_ble_eq_true rfl) wd_6_200 ha_x5 hv_x5 dX12_layAt_5 ?_
  refine r_ifeqZ (b := x5) (tgt := 27) (by decide) dX12_layAt_8 (fun hc => ?_) (fun hc => ?_)
  · replace hf := hf.1 hc
    exact r_sub [0] rfl (b_X12_layAt_27 hf)
  · replace hf := hf.2 hc
    refine r_iload_n (j := 1) rfl rfl dX12_layAt_11 ?_
    refine r_iflt (x := v1) (tgt := 27) (by decide) dX12_layAt_12 (fun hc => ?_) (fun hc => ?_)
    · replace hf := hf.1 hc
      exact r_sub [0] rfl (b_X12_layAt_27 hf)
    · replace hf := hf.2 hc
      refine r_aload_n (j := 0) rfl rfl dX12_layAt_15 ?_
      refine r_aload_n (j := 0) rfl rfl dX12_layAt_16 ?_
      try unfold C_X12_standNow at hf
      obtain ⟨⟨fs_r7, ha_r7⟩, hf⟩ := hf
      refine r_invVI (t := 12) (As := []) (dz := d) (mz := 0) (sz := 0) rfl wd_8_26 wd_8_28 wd_p_77 cf_X12_standNow (Nat.le_refl _) (Nat.zero_le _) (Nat.zero_le _) (cat_ok (Nat.le_of_ble_eq_true rfl)) rfl rfl ha_r7 dX12_layAt_17 hf (fun r7 σ6 hk => ?_)
      replace hf := hk
      clear hk
      refine r_iload_n (j := 1) rfl rfl dX12_layAt_20 ?_
      try unfold C_X12_mayAt at hf
      obtain ⟨⟨fs_r9, ha_r9⟩, hf⟩ := hf
      refine r_invVI (t := 12) (As := [aI r7, aI v1]) (dz := d) (mz := 0) (sz := 0) rfl wd_8_52 wd_8_54 wd_p_80 cf_X12_mayAt (Nat.le_refl _) (Nat.zero_le _) (Nat.zero_le _) (cat_ok (Nat.le_of_ble_eq_true rfl)) rfl rfl ha_r9 dX12_layAt_21 hf (fun r9 σ8 hk => ?_)
      replace hf := hk
      clear hk
      refine r_goto (tgt := 29) (by decide) dX12_layAt_24 ?_
      exact r_sub [0] rfl (b_X12_layAt_29 hf)
theorem m_X12_layAt {l : Launch} {G : GG} {d : Nat} {v0 : Nat} {v1 : Int32} {σ : Hp} {K : Int32 → Hp → Prop} (hr : rv σ v0 12) (hf : F_X12_layAt l G d v0 v1 σ K) : C_X12_layAt l G (d + 1) v0 v1 σ K := ⟨hr, Sp.of (by decide) (Nat.le_of_ble_eq_true rfl) (b_X12_layAt_0 hf) rfl⟩
def F_X12_halfRound_75 (l : Launch) (G : GG) (d : Nat) (X26 : Nat → Int32 → Int32 → Int32 → Int32 → Int32 → Hp → Prop) (v0 : Nat) (v1 : Int32) (v2 : Int32) (v3 : Int32) (v5 : Int32) (s0 : Int32) (s1 : Int32) (σ : Hp) (K : Int32 → Hp → Prop) : Prop :=
  X26 v0 v1 v2 v3 (s0 ||| s1) (v5 + 1) σ
set_option maxRecDepth 100000 in
set_option maxHeartbeats 4000000 in
theorem b_X12_halfRound_75 {l : Launch} {G : GG} {d : Nat} {X26 : Nat → Int32 → Int32 → Int32 → Int32 → Int32 → Hp → Prop} {v0 : Nat} {v1 : Int32} {v2 : Int32} {v3 : Int32} {v5 : Int32} {s0 : Int32} {s1 : Int32} {σ : Hp} {K : Int32 → Hp → Prop} (hX26 : ∀ v0 v1 v2 v3 v4 v5 σ, X26 v0 v1 v2 v3 v4 v5 σ → Wd l G (d + 1) "CoinsLaidModel" yX12_halfRound cX12_halfRound 6 (some FieldType.int) 26 [(0, aR (some v0)), (1, aI v1), (2, aI v2), (3, aI v3), (4, aI v4), (5, aI v5)] [] σ 0 0 (xM (QI K))) (hf : F_X12_halfRound_75 l G d X26 v0 v1 v2 v3 v5 s0 s1 σ K) : Wd l G (d + 1) "CoinsLaidModel" yX12_halfRound cX12_halfRound 6 (some FieldType.int) 75 [(0, aR (some v0)), (1, aI v1), (2, aI v2), (3, aI v3), (5, aI v5)] [aI s1, aI s0] σ 0 0 (xM (QI K)) := by
  unfold F_X12_halfRound_75 at hf
  refine r_ior (x := s0) (y := s1) dX12_halfRound_75 ?_
  refine r_istore (L' := [(4, aI (s0 ||| s1)), (0, aR (some v0)), (1, aI v1), (2, aI v2), (3, aI v3), (5, aI v5)]) rfl (Nat.le_of_ble_eq_true rfl) dX12_halfRound_76 ?_
  refine r_iinc (j := 5) (w := (v5 + 1)) (L' := [(5, aI (v5 + 1)), (4, aI (s0 ||| s1)), (0, aR (some v0)), (1, aI v1), (2, aI v2), (3, aI v3)]) rfl (by rfl) rfl (Nat.le_of_ble_eq_true rfl) dX12_halfRound_78 ?_
  refine r_goto (tgt := 26) (by decide) dX12_halfRound_81 ?_
  exact r_sub [2, 3, 4, 5, 1, 0] rfl (hX26 _ _ _ _ _ _ _ hf)
def F_X12_halfRound_26 (l : Launch) (G : GG) (d : Nat) (X26 : Nat → Int32 → Int32 → Int32 → Int32 → Int32 → Hp → Prop) (v0 : Nat) (v1 : Int32) (v2 : Int32) (v3 : Int32) (v4 : Int32) (v5 : Int32) (σ : Hp) (K : Int32 → Hp → Prop) : Prop :=
  ((v3 : Int32) ≤ (v5 : Int32) →
    K v4 σ) ∧
  (¬ (v3 : Int32) ≤ (v5 : Int32) →
    fN σ v0 12 15 fun x1 =>
    gI σ x1 (13 + v1) fun x2 =>
    C_X12_hasBit l G d v2 (x2 + v5) σ fun r4 σ3 =>
    (r4 = false →
      F_X12_halfRound_75 l G d X26 v0 v1 v2 v3 v5 v4 0 σ3 K) ∧
    (r4 = true →
      fN σ3 v0 12 15 fun x5 =>
      gI σ3 x5 (13 + v1) fun x6 =>
      F_X12_halfRound_75 l G d X26 v0 v1 v2 v3 v5 v4 (1 <<< ((((x6 + v3) - 1) - v5) &&& 31)) σ3 K))
set_option maxRecDepth 100000 in
set_option maxHeartbeats 4000000 in
theorem b_X12_halfRound_26 {l : Launch} {G : GG} {d : Nat} {X26 : Nat → Int32 → Int32 → Int32 → Int32 → Int32 → Hp → Prop} {v0 : Nat} {v1 : Int32} {v2 : Int32} {v3 : Int32} {v4 : Int32} {v5 : Int32} {σ : Hp} {K : Int32 → Hp → Prop} (hX26 : ∀ v0 v1 v2 v3 v4 v5 σ, X26 v0 v1 v2 v3 v4 v5 σ → Wd l G (d + 1) "CoinsLaidModel" yX12_halfRound cX12_halfRound 6 (some FieldType.int) 26 [(0, aR (some v0)), (1, aI v1), (2, aI v2), (3, aI v3), (4, aI v4), (5, aI v5)] [] σ 0 0 (xM (QI K))) (hf : F_X12_halfRound_26 l G d X26 v0 v1 v2 v3 v4 v5 σ K) : Wd l G (d + 1) "CoinsLaidModel" yX12_halfRound cX12_halfRound 6 (some FieldType.int) 26 [(0, aR (some v0)), (1, aI v1), (2, aI v2), (3, aI v3), (4, aI v4), (5, aI v5)] [] σ 0 0 (xM (QI K)) := by
  unfold F_X12_halfRound_26 at hf
  refine r_iload (j := 5) rfl dX12_halfRound_26 ?_
  refine r_iload_n (j := 3) rfl rfl dX12_halfRound_28 ?_
  refine r_icmpge (x := v5) (y := v3) (tgt := 84) (by decide) dX12_halfRound_29 (fun hc => ?_) (fun hc => ?_)
  · replace hf := hf.1 hc
    refine r_iload (j := 4) rfl dX12_halfRound_84 ?_
    exact r_ireturn rfl dX12_halfRound_86 rfl ⟨_, rfl, hf⟩
  · replace hf := hf.2 hc
    refine r_iload (j := 4) rfl dX12_halfRound_32 ?_
    refine r_iload_n (j := 2) rfl rfl dX12_halfRound_34 ?_
    refine r_aload_n (j := 0) rfl rfl dX12_halfRound_35 ?_
    obtain ⟨fs_x1, x1, ha_x1, hv_x1, hf⟩ := hf
    refine r_get (Cn := RX12) (Tt := TX12) (N := 42) (n := 15) rfl uw_X12 (Nat.le_of_ble_eq_true rfl) wd_6_201 ha_x1 hv_x1 dX12_halfRound_36 ?_
    refine r_bipush (v := 13) (by decide) dX12_halfRound_39 ?_
    refine r_iload_n (j := 1) rfl rfl dX12_halfRound_41 ?_
    refine r_iadd (x := 13) (y := v1) dX12_halfRound_42 ?_
    obtain ⟨N_x2, f_x2, ha_x2, hi_x2, hf⟩ := hf
    refine r_iald ha_x2 hi_x2 dX12_halfRound_43 ?_
    generalize f_x2 ((13 + v1) : Int32).toNatClampNeg = x2 at hf ⊢
    refine r_iload (j := 5) rfl dX12_halfRound_44 ?_
    refine r_iadd (x := x2) (y := v5) dX12_halfRound_46 ?_
    try unfold C_X12_hasBit at hf
    refine r_invSZ (As := [aI v2, aI (x2 + v5)]) (dz := d) (mz := 0) (sz := 0) rfl wd_7_182 wd_7_183 cf_X12_hasBit (Nat.le_refl _) (Nat.zero_le _) (Nat.zero_le _) (cat_ok (Nat.le_of_ble_eq_true rfl)) dX12_halfRound_47 hf (fun r4 σ3 hk => ?_)
    replace hf := hk
    clear hk
    refine r_ifeqZ (b := r4) (tgt := 74) (by decide) dX12_halfRound_50 (fun hc => ?_) (fun hc => ?_)
    · replace hf := hf.1 hc
      refine r_iconst (v := 0) (by decide) dX12_halfRound_74 ?_
      exact r_sub [0, 1, 2, 3, 5] rfl (b_X12_halfRound_75 hX26 hf)
    · replace hf := hf.2 hc
      refine r_iconst (v := 1) (by decide) dX12_halfRound_53 ?_
      refine r_aload_n (j := 0) rfl rfl dX12_halfRound_54 ?_
      obtain ⟨fs_x5, x5, ha_x5, hv_x5, hf⟩ := hf
      refine r_get (Cn := RX12) (Tt := TX12) (N := 42) (n := 15) rfl uw_X12 (Nat.le_of_ble_eq_true rfl) wd_6_201 ha_x5 hv_x5 dX12_halfRound_55 ?_
      refine r_bipush (v := 13) (by decide) dX12_halfRound_58 ?_
      refine r_iload_n (j := 1) rfl rfl dX12_halfRound_60 ?_
      refine r_iadd (x := 13) (y := v1) dX12_halfRound_61 ?_
      obtain ⟨N_x6, f_x6, ha_x6, hi_x6, hf⟩ := hf
      refine r_iald ha_x6 hi_x6 dX12_halfRound_62 ?_
      generalize f_x6 ((13 + v1) : Int32).toNatClampNeg = x6 at hf ⊢
      refine r_iload_n (j := 3) rfl rfl dX12_halfRound_63 ?_
      refine r_iadd (x := x6) (y := v3) dX12_halfRound_64 ?_
      refine r_iconst (v := 1) (by decide) dX12_halfRound_65 ?_
      refine r_isub (x := (x6 + v3)) (y := 1) dX12_halfRound_66 ?_
      refine r_iload (j := 5) rfl dX12_halfRound_67 ?_
      refine r_isub (x := ((x6 + v3) - 1)) (y := v5) dX12_halfRound_69 ?_
      refine r_ishl (x := 1) (y := (((x6 + v3) - 1) - v5)) dX12_halfRound_70 ?_
      refine r_goto (tgt := 75) (by decide) dX12_halfRound_71 ?_
      exact r_sub [0, 1, 2, 3, 5] rfl (b_X12_halfRound_75 hX26 hf)
def Z_X12_halfRound_26 (l : Launch) (G : GG) (d : Nat) (K : Int32 → Hp → Prop) : Nat → Nat → Int32 → Int32 → Int32 → Int32 → Int32 → Hp → Prop
  | 0 => fun _ _ _ _ _ _ _ => False
  | n + 1 => fun v0 v1 v2 v3 v4 v5 σ => F_X12_halfRound_26 l G d (Z_X12_halfRound_26 l G d K n) v0 v1 v2 v3 v4 v5 σ K
theorem z_X12_halfRound_26 {l : Launch} {G : GG} {d : Nat} {K : Int32 → Hp → Prop} : ∀ (n : Nat) v0 v1 v2 v3 v4 v5 σ, Z_X12_halfRound_26 l G d K n v0 v1 v2 v3 v4 v5 σ → Wd l G (d + 1) "CoinsLaidModel" yX12_halfRound cX12_halfRound 6 (some FieldType.int) 26 [(0, aR (some v0)), (1, aI v1), (2, aI v2), (3, aI v3), (4, aI v4), (5, aI v5)] [] σ 0 0 (xM (QI K)) := by
  intro n
  induction n with
  | zero => intro v0 v1 v2 v3 v4 v5 σ hf; exact hf.elim
  | succ n ih => intro v0 v1 v2 v3 v4 v5 σ hf; exact b_X12_halfRound_26 ih hf
def F_X12_halfRound (l : Launch) (G : GG) (d : Nat) (v0 : Nat) (v1 : Int32) (v2 : Int32) (σ : Hp) (K : Int32 → Hp → Prop) : Prop :=
  fN σ v0 12 15 fun x7 =>
  gI σ x7 (7 + v1) fun x8 =>
  fN σ v0 12 15 fun x9 =>
  gI σ x9 (10 + v1) fun x10 =>
  ∃ n, Z_X12_halfRound_26 l G d K n v0 v1 v2 (x8 * x10) 0 0 σ
set_option maxRecDepth 100000 in
set_option maxHeartbeats 4000000 in
theorem b_X12_halfRound_0 {l : Launch} {G : GG} {d : Nat} {v0 : Nat} {v1 : Int32} {v2 : Int32} {σ : Hp} {K : Int32 → Hp → Prop} (hf : F_X12_halfRound l G d v0 v1 v2 σ K) : Wd l G (d + 1) "CoinsLaidModel" yX12_halfRound cX12_halfRound 6 (some FieldType.int) 0 [(0, aR (some v0)), (1, aI v1), (2, aI v2)] [] σ 0 0 (xM (QI K)) := by
  unfold F_X12_halfRound at hf
  refine r_aload_n (j := 0) rfl rfl dX12_halfRound_0 ?_
  obtain ⟨fs_x7, x7, ha_x7, hv_x7, hf⟩ := hf
  refine r_get (Cn := RX12) (Tt := TX12) (N := 42) (n := 15) rfl uw_X12 (Nat.le_of_ble_eq_true rfl) wd_6_201 ha_x7 hv_x7 dX12_halfRound_1 ?_
  refine r_bipush (v := 7) (by decide) dX12_halfRound_4 ?_
  refine r_iload_n (j := 1) rfl rfl dX12_halfRound_6 ?_
  refine r_iadd (x := 7) (y := v1) dX12_halfRound_7 ?_
  obtain ⟨N_x8, f_x8, ha_x8, hi_x8, hf⟩ := hf
  refine r_iald ha_x8 hi_x8 dX12_halfRound_8 ?_
  generalize f_x8 ((7 + v1) : Int32).toNatClampNeg = x8 at hf ⊢
  refine r_aload_n (j := 0) rfl rfl dX12_halfRound_9 ?_
  obtain ⟨fs_x9, x9, ha_x9, hv_x9, hf⟩ := hf
  refine r_get (Cn := RX12) (Tt := TX12) (N := 42) (n := 15) rfl uw_X12 (Nat.le_of_ble_eq_true rfl) wd_6_201 ha_x9 hv_x9 dX12_halfRound_10 ?_
  refine r_bipush (v := 10) (by decide) dX12_halfRound_13 ?_
  refine r_iload_n (j := 1) rfl rfl dX12_halfRound_15 ?_
  refine r_iadd (x := 10) (y := v1) dX12_halfRound_16 ?_
  obtain ⟨N_x10, f_x10, ha_x10, hi_x10, hf⟩ := hf
  refine r_iald ha_x10 hi_x10 dX12_halfRound_17 ?_
  generalize f_x10 ((10 + v1) : Int32).toNatClampNeg = x10 at hf ⊢
  refine r_imul (x := x8) (y := x10) dX12_halfRound_18 ?_
  refine r_istore_n (L' := [(3, aI (x8 * x10)), (0, aR (some v0)), (1, aI v1), (2, aI v2)]) rfl rfl (Nat.le_of_ble_eq_true rfl) dX12_halfRound_19 ?_
  refine r_iconst (v := 0) (by decide) dX12_halfRound_20 ?_
  refine r_istore (L' := [(4, aI 0), (3, aI (x8 * x10)), (0, aR (some v0)), (1, aI v1), (2, aI v2)]) rfl (Nat.le_of_ble_eq_true rfl) dX12_halfRound_21 ?_
  refine r_iconst (v := 0) (by decide) dX12_halfRound_23 ?_
  refine r_istore (L' := [(5, aI 0), (4, aI 0), (3, aI (x8 * x10)), (0, aR (some v0)), (1, aI v1), (2, aI v2)]) rfl (Nat.le_of_ble_eq_true rfl) dX12_halfRound_24 ?_
  obtain ⟨n, hf⟩ := hf
  exact r_sub [3, 4, 5, 2, 1, 0] rfl (z_X12_halfRound_26 n _ _ _ _ _ _ _ hf)
theorem m_X12_halfRound {l : Launch} {G : GG} {d : Nat} {v0 : Nat} {v1 : Int32} {v2 : Int32} {σ : Hp} {K : Int32 → Hp → Prop} (hr : rv σ v0 12) (hf : F_X12_halfRound l G d v0 v1 v2 σ K) : C_X12_halfRound l G (d + 1) v0 v1 v2 σ K := ⟨hr, Sp.of (by decide) (Nat.le_of_ble_eq_true rfl) (b_X12_halfRound_0 hf) rfl⟩
def F_X12_acrossOf_69 (l : Launch) (G : GG) (d : Nat) (X19 : Nat → Int32 → Int32 → Int32 → Hp → Prop) (v0 : Nat) (v1 : Int32) (v2 : Int32) (v3 : Int32) (σ : Hp) (K : Int32 → Hp → Prop) : Prop :=
  X19 v0 v1 v2 (v3 + 1) σ
set_option maxRecDepth 100000 in
set_option maxHeartbeats 4000000 in
theorem b_X12_acrossOf_69 {l : Launch} {G : GG} {d : Nat} {X19 : Nat → Int32 → Int32 → Int32 → Hp → Prop} {v0 : Nat} {v1 : Int32} {v2 : Int32} {v3 : Int32} {σ : Hp} {K : Int32 → Hp → Prop} (hX19 : ∀ v0 v1 v2 v3 σ, X19 v0 v1 v2 v3 σ → Wd l G (d + 1) "CoinsLaidModel" yX12_acrossOf cX12_acrossOf 4 (some FieldType.int) 19 [(0, aR (some v0)), (1, aI v1), (2, aI v2), (3, aI v3)] [] σ 0 0 (xM (QI K))) (hf : F_X12_acrossOf_69 l G d X19 v0 v1 v2 v3 σ K) : Wd l G (d + 1) "CoinsLaidModel" yX12_acrossOf cX12_acrossOf 4 (some FieldType.int) 69 [(0, aR (some v0)), (1, aI v1), (2, aI v2), (3, aI v3)] [] σ 0 0 (xM (QI K)) := by
  unfold F_X12_acrossOf_69 at hf
  refine r_iinc (j := 3) (w := (v3 + 1)) (L' := [(3, aI (v3 + 1)), (0, aR (some v0)), (1, aI v1), (2, aI v2)]) rfl (by rfl) rfl (Nat.le_of_ble_eq_true rfl) dX12_acrossOf_69 ?_
  refine r_goto (tgt := 19) (by decide) dX12_acrossOf_72 ?_
  exact r_sub [1, 2, 3, 0] rfl (hX19 _ _ _ _ _ hf)
def F_X12_acrossOf_19 (l : Launch) (G : GG) (d : Nat) (X19 : Nat → Int32 → Int32 → Int32 → Hp → Prop) (v0 : Nat) (v1 : Int32) (v2 : Int32) (v3 : Int32) (σ : Hp) (K : Int32 → Hp → Prop) : Prop :=
  fI σ v0 12 30 fun x1 =>
  ((x1 : Int32) ≤ (v3 : Int32) →
    K (-2) σ) ∧
  (¬ (x1 : Int32) ≤ (v3 : Int32) →
    fN σ v0 12 23 fun x2 =>
    gI σ x2 v3 fun x3 =>
    fN σ v0 12 23 fun x4 =>
    gI σ x4 v1 fun x5 =>
    (¬ (x3 : Int32) = (x5 : Int32) →
      F_X12_acrossOf_69 l G d X19 v0 v1 v2 v3 σ K) ∧
    ((x3 : Int32) = (x5 : Int32) →
      fN σ v0 12 24 fun x6 =>
      gI σ x6 v3 fun x7 =>
      fN σ v0 12 24 fun x8 =>
      gI σ x8 v1 fun x9 =>
      (¬ (x7 : Int32) = (x9 : Int32) →
        F_X12_acrossOf_69 l G d X19 v0 v1 v2 v3 σ K) ∧
      ((x7 : Int32) = (x9 : Int32) →
        fN σ v0 12 28 fun x10 =>
        gI σ x10 v3 fun x11 =>
        (¬ (x11 : Int32) = (v2 : Int32) →
          F_X12_acrossOf_69 l G d X19 v0 v1 v2 v3 σ K) ∧
        ((x11 : Int32) = (v2 : Int32) →
          K v3 σ))))
set_option maxRecDepth 100000 in
set_option maxHeartbeats 4000000 in
theorem b_X12_acrossOf_19 {l : Launch} {G : GG} {d : Nat} {X19 : Nat → Int32 → Int32 → Int32 → Hp → Prop} {v0 : Nat} {v1 : Int32} {v2 : Int32} {v3 : Int32} {σ : Hp} {K : Int32 → Hp → Prop} (hX19 : ∀ v0 v1 v2 v3 σ, X19 v0 v1 v2 v3 σ → Wd l G (d + 1) "CoinsLaidModel" yX12_acrossOf cX12_acrossOf 4 (some FieldType.int) 19 [(0, aR (some v0)), (1, aI v1), (2, aI v2), (3, aI v3)] [] σ 0 0 (xM (QI K))) (hf : F_X12_acrossOf_19 l G d X19 v0 v1 v2 v3 σ K) : Wd l G (d + 1) "CoinsLaidModel" yX12_acrossOf cX12_acrossOf 4 (some FieldType.int) 19 [(0, aR (some v0)), (1, aI v1), (2, aI v2), (3, aI v3)] [] σ 0 0 (xM (QI K)) := by
  unfold F_X12_acrossOf_19 at hf
  refine r_iload_n (j := 3) rfl rfl dX12_acrossOf_19 ?_
  refine r_aload_n (j := 0) rfl rfl dX12_acrossOf_20 ?_
  obtain ⟨fs_x1, x1, ha_x1, hv_x1, hf⟩ := hf
  refine r_get (Cn := RX12) (Tt := TX12) (N := 42) (n := 30) rfl uw_X12 (Nat.le_of_ble_eq_true rfl) wd_6_216 ha_x1 hv_x1 dX12_acrossOf_21 ?_
  refine r_icmpge (x := v3) (y := x1) (tgt := 75) (by decide) dX12_acrossOf_24 (fun hc => ?_) (fun hc => ?_)
  · replace hf := hf.1 hc
    refine r_bipush (v := (-2)) (by decide) dX12_acrossOf_75 ?_
    exact r_ireturn rfl dX12_acrossOf_77 rfl ⟨_, rfl, hf⟩
  · replace hf := hf.2 hc
    refine r_aload_n (j := 0) rfl rfl dX12_acrossOf_27 ?_
    obtain ⟨fs_x2, x2, ha_x2, hv_x2, hf⟩ := hf
    refine r_get (Cn := RX12) (Tt := TX12) (N := 42) (n := 23) rfl uw_X12 (Nat.le_of_ble_eq_true rfl) wd_6_209 ha_x2 hv_x2 dX12_acrossOf_28 ?_
    refine r_iload_n (j := 3) rfl rfl dX12_acrossOf_31 ?_
    obtain ⟨N_x3, f_x3, ha_x3, hi_x3, hf⟩ := hf
    refine r_iald ha_x3 hi_x3 dX12_acrossOf_32 ?_
    generalize f_x3 (v3 : Int32).toNatClampNeg = x3 at hf ⊢
    refine r_aload_n (j := 0) rfl rfl dX12_acrossOf_33 ?_
    obtain ⟨fs_x4, x4, ha_x4, hv_x4, hf⟩ := hf
    refine r_get (Cn := RX12) (Tt := TX12) (N := 42) (n := 23) rfl uw_X12 (Nat.le_of_ble_eq_true rfl) wd_6_209 ha_x4 hv_x4 dX12_acrossOf_34 ?_
    refine r_iload_n (j := 1) rfl rfl dX12_acrossOf_37 ?_
    obtain ⟨N_x5, f_x5, ha_x5, hi_x5, hf⟩ := hf
    refine r_iald ha_x5 hi_x5 dX12_acrossOf_38 ?_
    generalize f_x5 (v1 : Int32).toNatClampNeg = x5 at hf ⊢
    refine r_icmpne (x := x3) (y := x5) (tgt := 69) (by decide) dX12_acrossOf_39 (fun hc => ?_) (fun hc => ?_)
    · replace hf := hf.1 hc
      exact r_sub [0, 1, 2, 3] rfl (b_X12_acrossOf_69 hX19 hf)
    · replace hf := hf.2 hc
      refine r_aload_n (j := 0) rfl rfl dX12_acrossOf_42 ?_
      obtain ⟨fs_x6, x6, ha_x6, hv_x6, hf⟩ := hf
      refine r_get (Cn := RX12) (Tt := TX12) (N := 42) (n := 24) rfl uw_X12 (Nat.le_of_ble_eq_true rfl) wd_6_210 ha_x6 hv_x6 dX12_acrossOf_43 ?_
      refine r_iload_n (j := 3) rfl rfl dX12_acrossOf_46 ?_
      obtain ⟨N_x7, f_x7, ha_x7, hi_x7, hf⟩ := hf
      refine r_iald ha_x7 hi_x7 dX12_acrossOf_47 ?_
      generalize f_x7 (v3 : Int32).toNatClampNeg = x7 at hf ⊢
      refine r_aload_n (j := 0) rfl rfl dX12_acrossOf_48 ?_
      obtain ⟨fs_x8, x8, ha_x8, hv_x8, hf⟩ := hf
      refine r_get (Cn := RX12) (Tt := TX12) (N := 42) (n := 24) rfl uw_X12 (Nat.le_of_ble_eq_true rfl) wd_6_210 ha_x8 hv_x8 dX12_acrossOf_49 ?_
      refine r_iload_n (j := 1) rfl rfl dX12_acrossOf_52 ?_
      obtain ⟨N_x9, f_x9, ha_x9, hi_x9, hf⟩ := hf
      refine r_iald ha_x9 hi_x9 dX12_acrossOf_53 ?_
      generalize f_x9 (v1 : Int32).toNatClampNeg = x9 at hf ⊢
      refine r_icmpne (x := x7) (y := x9) (tgt := 69) (by decide) dX12_acrossOf_54 (fun hc => ?_) (fun hc => ?_)
      · replace hf := hf.1 hc
        exact r_sub [0, 1, 2, 3] rfl (b_X12_acrossOf_69 hX19 hf)
      · replace hf := hf.2 hc
        refine r_aload_n (j := 0) rfl rfl dX12_acrossOf_57 ?_
        obtain ⟨fs_x10, x10, ha_x10, hv_x10, hf⟩ := hf
        refine r_get (Cn := RX12) (Tt := TX12) (N := 42) (n := 28) rfl uw_X12 (Nat.le_of_ble_eq_true rfl) wd_6_214 ha_x10 hv_x10 dX12_acrossOf_58 ?_
        refine r_iload_n (j := 3) rfl rfl dX12_acrossOf_61 ?_
        obtain ⟨N_x11, f_x11, ha_x11, hi_x11, hf⟩ := hf
        refine r_iald ha_x11 hi_x11 dX12_acrossOf_62 ?_
        generalize f_x11 (v3 : Int32).toNatClampNeg = x11 at hf ⊢
        refine r_iload_n (j := 2) rfl rfl dX12_acrossOf_63 ?_
        refine r_icmpne (x := x11) (y := v2) (tgt := 69) (by decide) dX12_acrossOf_64 (fun hc => ?_) (fun hc => ?_)
        · replace hf := hf.1 hc
          exact r_sub [0, 1, 2, 3] rfl (b_X12_acrossOf_69 hX19 hf)
        · replace hf := hf.2 hc
          refine r_iload_n (j := 3) rfl rfl dX12_acrossOf_67 ?_
          exact r_ireturn rfl dX12_acrossOf_68 rfl ⟨_, rfl, hf⟩
def Z_X12_acrossOf_19 (l : Launch) (G : GG) (d : Nat) (K : Int32 → Hp → Prop) : Nat → Nat → Int32 → Int32 → Int32 → Hp → Prop
  | 0 => fun _ _ _ _ _ => False
  | n + 1 => fun v0 v1 v2 v3 σ => F_X12_acrossOf_19 l G d (Z_X12_acrossOf_19 l G d K n) v0 v1 v2 v3 σ K
theorem z_X12_acrossOf_19 {l : Launch} {G : GG} {d : Nat} {K : Int32 → Hp → Prop} : ∀ (n : Nat) v0 v1 v2 v3 σ, Z_X12_acrossOf_19 l G d K n v0 v1 v2 v3 σ → Wd l G (d + 1) "CoinsLaidModel" yX12_acrossOf cX12_acrossOf 4 (some FieldType.int) 19 [(0, aR (some v0)), (1, aI v1), (2, aI v2), (3, aI v3)] [] σ 0 0 (xM (QI K)) := by
  intro n
  induction n with
  | zero => intro v0 v1 v2 v3 σ hf; exact hf.elim
  | succ n ih => intro v0 v1 v2 v3 σ hf; exact b_X12_acrossOf_19 ih hf
def F_X12_acrossOf (l : Launch) (G : GG) (d : Nat) (v0 : Nat) (v1 : Int32) (σ : Hp) (K : Int32 → Hp → Prop) : Prop :=
  fN σ v0 12 24 fun x12 =>
  gI σ x12 v1 fun x13 =>
  fN σ v0 12 28 fun x14 =>
  gI σ x14 v1 fun x15 =>
  C_X12_halfRound l G d v0 x13 x15 σ fun r17 σ16 =>
  ∃ n, Z_X12_acrossOf_19 l G d K n v0 v1 r17 0 σ16
set_option maxRecDepth 100000 in
set_option maxHeartbeats 4000000 in
theorem b_X12_acrossOf_0 {l : Launch} {G : GG} {d : Nat} {v0 : Nat} {v1 : Int32} {σ : Hp} {K : Int32 → Hp → Prop} (hf : F_X12_acrossOf l G d v0 v1 σ K) : Wd l G (d + 1) "CoinsLaidModel" yX12_acrossOf cX12_acrossOf 4 (some FieldType.int) 0 [(0, aR (some v0)), (1, aI v1)] [] σ 0 0 (xM (QI K)) := by
  unfold F_X12_acrossOf at hf
  refine r_aload_n (j := 0) rfl rfl dX12_acrossOf_0 ?_
  refine r_aload_n (j := 0) rfl rfl dX12_acrossOf_1 ?_
  obtain ⟨fs_x12, x12, ha_x12, hv_x12, hf⟩ := hf
  refine r_get (Cn := RX12) (Tt := TX12) (N := 42) (n := 24) rfl uw_X12 (Nat.le_of_ble_eq_true rfl) wd_6_210 ha_x12 hv_x12 dX12_acrossOf_2 ?_
  refine r_iload_n (j := 1) rfl rfl dX12_acrossOf_5 ?_
  obtain ⟨N_x13, f_x13, ha_x13, hi_x13, hf⟩ := hf
  refine r_iald ha_x13 hi_x13 dX12_acrossOf_6 ?_
  generalize f_x13 (v1 : Int32).toNatClampNeg = x13 at hf ⊢
  refine r_aload_n (j := 0) rfl rfl dX12_acrossOf_7 ?_
  obtain ⟨fs_x14, x14, ha_x14, hv_x14, hf⟩ := hf
  refine r_get (Cn := RX12) (Tt := TX12) (N := 42) (n := 28) rfl uw_X12 (Nat.le_of_ble_eq_true rfl) wd_6_214 ha_x14 hv_x14 dX12_acrossOf_8 ?_
  refine r_iload_n (j := 1) rfl rfl dX12_acrossOf_11 ?_
  obtain ⟨N_x15, f_x15, ha_x15, hi_x15, hf⟩ := hf
  refine r_iald ha_x15 hi_x15 dX12_acrossOf_12 ?_
  generalize f_x15 (v1 : Int32).toNatClampNeg = x15 at hf ⊢
  try unfold C_X12_halfRound at hf
  obtain ⟨⟨fs_r17, ha_r17⟩, hf⟩ := hf
  refine r_invVI (t := 12) (As := [aI x13, aI x15]) (dz := d) (mz := 0) (sz := 0) rfl wd_8_64 wd_8_66 wd_p_82 cf_X12_halfRound (Nat.le_refl _) (Nat.zero_le _) (Nat.zero_le _) (cat_ok (Nat.le_of_ble_eq_true rfl)) rfl rfl ha_r17 dX12_acrossOf_13 hf (fun r17 σ16 hk => ?_)
  replace hf := hk
  clear hk
  refine r_istore_n (L' := [(2, aI r17), (0, aR (some v0)), (1, aI v1)]) rfl rfl (Nat.le_of_ble_eq_true rfl) dX12_acrossOf_16 ?_
  refine r_iconst (v := 0) (by decide) dX12_acrossOf_17 ?_
  refine r_istore_n (L' := [(3, aI 0), (2, aI r17), (0, aR (some v0)), (1, aI v1)]) rfl rfl (Nat.le_of_ble_eq_true rfl) dX12_acrossOf_18 ?_
  obtain ⟨n, hf⟩ := hf
  exact r_sub [2, 3, 1, 0] rfl (z_X12_acrossOf_19 n _ _ _ _ _ hf)
theorem m_X12_acrossOf {l : Launch} {G : GG} {d : Nat} {v0 : Nat} {v1 : Int32} {σ : Hp} {K : Int32 → Hp → Prop} (hr : rv σ v0 12) (hf : F_X12_acrossOf l G d v0 v1 σ K) : C_X12_acrossOf l G (d + 1) v0 v1 σ K := ⟨hr, Sp.of (by decide) (Nat.le_of_ble_eq_true rfl) (b_X12_acrossOf_0 hf) rfl⟩
