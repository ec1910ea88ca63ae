/-! 17.coin: written by wip/whole/gen.py -/
def F_X11_init (l : Launch) (G : GG) (d : Nat) (v0 : Nat) (σ : Hp) (bc bs : Nat) (K : Hp → Prop) : Prop :=
  nI_ σ 900 bc bs fun N3 q1 σ2 =>
  pF σ2 v0 11 0 (aR (some q1)) fun σ4 =>
  nO σ4 3 [aR none, aI 0, aR none, aR none, aR none, aR none, aR none, aR none, aR none, aR none, aR none] 11 (bc - 1) (bs - N3) fun q6 σ7 =>
  ∃ mz10 sz11, mz10 ≤ ((bc - 1) - 1) ∧ sz11 ≤ ((bs - N3) - 11) ∧ C_X3_init l G d mz10 sz11 q6 0 σ7 fun σ8 =>
  pF σ8 v0 11 6 (aR (some q6)) fun σ12 =>
  nO σ12 1 [aR none, aI 0, aI 0, aI 0] 4 (((bc - 1) - 1) - mz10) (((bs - N3) - 11) - sz11) fun q14 σ15 =>
  ∃ mz18 sz19, mz18 ≤ ((((bc - 1) - 1) - mz10) - 1) ∧ sz19 ≤ ((((bs - N3) - 11) - sz11) - 4) ∧ C_X1_init l G d mz18 sz19 q14 σ15 fun σ16 =>
  pF σ16 v0 11 7 (aR (some q14)) fun σ20 =>
  nO σ20 1 [aR none, aI 0, aI 0, aI 0] 4 (((((bc - 1) - 1) - mz10) - 1) - mz18) (((((bs - N3) - 11) - sz11) - 4) - sz19) fun q22 σ23 =>
  ∃ mz26 sz27, mz26 ≤ ((((((bc - 1) - 1) - mz10) - 1) - mz18) - 1) ∧ sz27 ≤ ((((((bs - N3) - 11) - sz11) - 4) - sz19) - 4) ∧ C_X1_init l G d mz26 sz27 q22 σ23 fun σ24 =>
  pF σ24 v0 11 8 (aR (some q22)) fun σ28 =>
  nO σ28 4 [aR none, aI 0, aI 0, aR none, aI 0] 5 (((((((bc - 1) - 1) - mz10) - 1) - mz18) - 1) - mz26) (((((((bs - N3) - 11) - sz11) - 4) - sz19) - 4) - sz27) fun q30 σ31 =>
  ∃ mz34 sz35, mz34 ≤ ((((((((bc - 1) - 1) - mz10) - 1) - mz18) - 1) - mz26) - 1) ∧ sz35 ≤ ((((((((bs - N3) - 11) - sz11) - 4) - sz19) - 4) - sz27) - 5) ∧ C_X4_init l G d mz34 sz35 q30 σ31 fun σ32 =>
  pF σ32 v0 11 9 (aR (some q30)) fun σ36 =>
  nO σ36 6 [aR none] 1 (((((((((bc - 1) - 1) - mz10) - 1) - mz18) - 1) - mz26) - 1) - mz34) (((((((((bs - N3) - 11) - sz11) - 4) - sz19) - 4) - sz27) - 5) - sz35) fun q38 σ39 =>
  ∃ mz42 sz43, mz42 ≤ ((((((((((bc - 1) - 1) - mz10) - 1) - mz18) - 1) - mz26) - 1) - mz34) - 1) ∧ sz43 ≤ ((((((((((bs - N3) - 11) - sz11) - 4) - sz19) - 4) - sz27) - 5) - sz35) - 1) ∧ C_X6_init l G d mz42 sz43 q38 σ39 fun σ40 =>
  pF σ40 v0 11 10 (aR (some q38)) fun σ44 =>
  nO σ44 7 [aR none, aR none, aR none, aR none, aI 0] 5 (((((((((((bc - 1) - 1) - mz10) - 1) - mz18) - 1) - mz26) - 1) - mz34) - 1) - mz42) (((((((((((bs - N3) - 11) - sz11) - 4) - sz19) - 4) - sz27) - 5) - sz35) - 1) - sz43) fun q46 σ47 =>
  ∃ mz50 sz51, mz50 ≤ ((((((((((((bc - 1) - 1) - mz10) - 1) - mz18) - 1) - mz26) - 1) - mz34) - 1) - mz42) - 1) ∧ sz51 ≤ ((((((((((((bs - N3) - 11) - sz11) - 4) - sz19) - 4) - sz27) - 5) - sz35) - 1) - sz43) - 5) ∧ C_X7_init l G d mz50 sz51 q46 σ47 fun σ48 =>
  pF σ48 v0 11 11 (aR (some q46)) fun σ52 =>
  K σ52
set_option maxRecDepth 100000 in
set_option maxHeartbeats 4000000 in
theorem b_X11_init_0 {l : Launch} {G : GG} {d : Nat} {v0 : Nat} {σ : Hp} {bc bs : Nat} {K : Hp → Prop} (hf : F_X11_init l G d v0 σ bc bs K) : Wd l G (d + 1) "CoinsLaid" yX11_init cX11_init 1 none 0 [(0, aR (some v0))] [] σ bc bs (xM (QV K)) := by
  unfold F_X11_init at hf
  refine r_aload_n (j := 0) rfl rfl dX11_init_0 ?_
  refine r_objInit wd_1_36 wd_1_37 wd_1_38 (Nat.le_add_left 1 d) (cat_ok (Nat.le_of_ble_eq_true rfl)) dX11_init_1 ?_
  refine r_aload_n (j := 0) rfl rfl dX11_init_4 ?_
  refine r_sipush (v := 900) (by decide) dX11_init_5 ?_
  obtain ⟨N3, hn_N3, hl_N3, hbc, hbs, hf⟩ := hf
  refine r_newI wd_1_80 hn_N3 hl_N3 hbc hbs dX11_init_8 (fun q1 hq_q1 => ?_)
  replace hf := hf q1 hq_q1
  refine Eq.mpr (congrArg (fun z => Wd _ _ _ _ _ _ _ _ _ _ _ z _ _ _) (rfl : _ = hset σ q1 (iA N3 fun _ => 0))) ?_
  generalize hset σ q1 (iA N3 fun _ => 0) = σ2 at hf ⊢
  obtain ⟨fs_x5, ha_x5, hf⟩ := hf
  generalize hσ4 : hset σ2 v0 (.inl (11, fs_x5.set 0 (aR (some q1)))) = σ4 at hf
  refine r_putF (Cn := RX11) (Tt := TX11) (N := 12) (n := 0) (v := aR (some q1)) rfl uw_X11 (Nat.le_of_ble_eq_true rfl) wd_1_173 ha_x5 (ty0 := tyX11) tyX11_ok nmX11 rfl rfl rfl (fo_A _ (some q1)) dX11_init_10 ?_
  rw [hσ4]
  refine r_aload_n (j := 0) rfl rfl dX11_init_13 ?_
  obtain ⟨hbc, hbs, hf⟩ := hf
  refine r_new (t := 3) (Cn := RX3) (Tt := TX3) (N := 11) (fs := [aR none, aI 0, aR none, aR none, aR none, aR none, aR none, aR none, aR none, aR none, aR none]) (ty0 := tyX3) rfl uw_X3 tyX3_ok wd_1_39 wd_1_40 wd_1_2 rfl dfv_X3 hbc hbs dX11_init_14 (fun q6 hq_q6 => ?_)
  replace hf := hf q6 hq_q6
  generalize hset σ4 q6 (.inl (3, [aR none, aI 0, aR none, aR none, aR none, aR none, aR none, aR none, aR none, aR none, aR none])) = σ7 at hf ⊢
  refine r_dup rfl dX11_init_17 ?_
  refine r_iconst (v := 0) (by decide) dX11_init_18 ?_
  obtain ⟨mz10, sz11, hbc, hbs, hf⟩ := hf
  try unfold C_X3_init at hf
  refine r_invIU (As := [aI 0]) (dz := d) (mz := mz10) (sz := sz11) rfl wd_1_41 wd_1_42 rfl rfl cf_X3_init (Nat.le_refl _) hbc hbs (cat_ok (Nat.le_of_ble_eq_true rfl)) dX11_init_19 hf (fun σ8 hk => ?_)
  replace hf := hk
  clear hk
  obtain ⟨fs_x13, ha_x13, hf⟩ := hf
  generalize hσ12 : hset σ8 v0 (.inl (11, fs_x13.set 6 (aR (some q6)))) = σ12 at hf
  refine r_put (Cn := RX11) (Tt := TX11) (N := 12) (n := 6) (v := aR (some q6)) rfl uw_X11 (Nat.le_of_ble_eq_true rfl) wd_1_179 ha_x13 (ty0 := tyX11) tyX11_ok nmX11 rfl (fo_R _ (some q6)) dX11_init_22 ?_
  rw [hσ12]
  refine r_aload_n (j := 0) rfl rfl dX11_init_25 ?_
  obtain ⟨hbc, hbs, hf⟩ := hf
  refine r_new (t := 1) (Cn := RX1) (Tt := TX1) (N := 4) (fs := [aR none, aI 0, aI 0, aI 0]) (ty0 := tyX1) rfl uw_X1 tyX1_ok wd_1_83 wd_1_84 wd_1_3 rfl dfv_X1 hbc hbs dX11_init_26 (fun q14 hq_q14 => ?_)
  replace hf := hf q14 hq_q14
  generalize hset σ12 q14 (.inl (1, [aR none, aI 0, aI 0, aI 0])) = σ15 at hf ⊢
  refine r_dup rfl dX11_init_29 ?_
  obtain ⟨mz18, sz19, hbc, hbs, hf⟩ := hf
  try unfold C_X1_init at hf
  refine r_invINU (host := "CoinsLaid") (As := []) (dz := d) (mz := mz18) (sz := sz19) rfl (List.mem_of_getElem? (i := 0) rfl) wd_1_86 rfl rfl cf_X1_init (Nat.le_refl _) hbc hbs (cat_ok (Nat.le_of_ble_eq_true rfl)) dX11_init_30 hf (fun σ16 hk => ?_)
  replace hf := hk
  clear hk
  obtain ⟨fs_x21, ha_x21, hf⟩ := hf
  generalize hσ20 : hset σ16 v0 (.inl (11, fs_x21.set 7 (aR (some q14)))) = σ20 at hf
  refine r_putF (Cn := RX11) (Tt := TX11) (N := 12) (n := 7) (v := aR (some q14)) rfl uw_X11 (Nat.le_of_ble_eq_true rfl) wd_1_180 ha_x21 (ty0 := tyX11) tyX11_ok nmX11 rfl rfl rfl (fo_R _ (some q14)) dX11_init_33 ?_
  rw [hσ20]
  refine r_aload_n (j := 0) rfl rfl dX11_init_36 ?_
  obtain ⟨hbc, hbs, hf⟩ := hf
  refine r_new (t := 1) (Cn := RX1) (Tt := TX1) (N := 4) (fs := [aR none, aI 0, aI 0, aI 0]) (ty0 := tyX1) rfl uw_X1 tyX1_ok wd_1_83 wd_1_84 wd_1_3 rfl dfv_X1 hbc hbs dX11_init_37 (fun q22 hq_q22 => ?_)
  replace hf := hf q22 hq_q22
  generalize hset σ20 q22 (.inl (1, [aR none, aI 0, aI 0, aI 0])) = σ23 at hf ⊢
  refine r_dup rfl dX11_init_40 ?_
  obtain ⟨mz26, sz27, hbc, hbs, hf⟩ := hf
  try unfold C_X1_init at hf
  refine r_invINU (host := "CoinsLaid") (As := []) (dz := d) (mz := mz26) (sz := sz27) rfl (List.mem_of_getElem? (i := 0) rfl) wd_1_86 rfl rfl cf_X1_init (Nat.le_refl _) hbc hbs (cat_ok (Nat.le_of_ble_eq_true rfl)) dX11_init_41 hf (fun σ24 hk => ?_)
  replace hf := hk
  clear hk
  obtain ⟨fs_x29, ha_x29, hf⟩ := hf
  generalize hσ28 : hset σ24 v0 (.inl (11, fs_x29.set 8 (aR (some q22)))) = σ28 at hf
  refine r_putF (Cn := RX11) (Tt := TX11) (N := 12) (n := 8) (v := aR (some q22)) rfl uw_X11 (Nat.le_of_ble_eq_true rfl) wd_1_181 ha_x29 (ty0 := tyX11) tyX11_ok nmX11 rfl rfl rfl (fo_R _ (some q22)) dX11_init_44 ?_
  rw [hσ28]
  refine r_aload_n (j := 0) rfl rfl dX11_init_47 ?_
  obtain ⟨hbc, hbs, hf⟩ := hf
  refine r_new (t := 4) (Cn := RX4) (Tt := TX4) (N := 5) (fs := [aR none, aI 0, aI 0, aR none, aI 0]) (ty0 := tyX4) rfl uw_X4 tyX4_ok wd_1_110 wd_1_111 wd_1_4 rfl dfv_X4 hbc hbs dX11_init_48 (fun q30 hq_q30 => ?_)
  replace hf := hf q30 hq_q30
  generalize hset σ28 q30 (.inl (4, [aR none, aI 0, aI 0, aR none, aI 0])) = σ31 at hf ⊢
  refine r_dup rfl dX11_init_51 ?_
  obtain ⟨mz34, sz35, hbc, hbs, hf⟩ := hf
  try unfold C_X4_init at hf
  refine r_invIU (As := []) (dz := d) (mz := mz34) (sz := sz35) rfl wd_1_112 wd_1_113 rfl rfl cf_X4_init (Nat.le_refl _) hbc hbs (cat_ok (Nat.le_of_ble_eq_true rfl)) dX11_init_52 hf (fun σ32 hk => ?_)
  replace hf := hk
  clear hk
  obtain ⟨fs_x37, ha_x37, hf⟩ := hf
  generalize hσ36 : hset σ32 v0 (.inl (11, fs_x37.set 9 (aR (some q30)))) = σ36 at hf
  refine r_putF (Cn := RX11) (Tt := TX11) (N := 12) (n := 9) (v := aR (some q30)) rfl uw_X11 (Nat.le_of_ble_eq_true rfl) wd_1_182 ha_x37 (ty0 := tyX11) tyX11_ok nmX11 rfl rfl rfl (fo_R _ (some q30)) dX11_init_55 ?_
  rw [hσ36]
  refine r_aload_n (j := 0) rfl rfl dX11_init_58 ?_
  obtain ⟨hbc, hbs, hf⟩ := hf
  refine r_new (t := 6) (Cn := RX6) (Tt := TX6) (N := 1) (fs := [aR none]) (ty0 := tyX6) rfl uw_X6 tyX6_ok wd_1_137 wd_1_138 wd_1_5 rfl dfv_X6 hbc hbs dX11_init_59 (fun q38 hq_q38 => ?_)
  replace hf := hf q38 hq_q38
  generalize hset σ36 q38 (.inl (6, [aR none])) = σ39 at hf ⊢
  refine r_dup rfl dX11_init_62 ?_
  obtain ⟨mz42, sz43, hbc, hbs, hf⟩ := hf
  try unfold C_X6_init at hf
  refine r_invINU (host := "CoinsLaid") (As := []) (dz := d) (mz := mz42) (sz := sz43) rfl (List.mem_of_getElem? (i := 2) rfl) wd_1_140 rfl rfl cf_X6_init (Nat.le_refl _) hbc hbs (cat_ok (Nat.le_of_ble_eq_true rfl)) dX11_init_63 hf (fun σ40 hk => ?_)
  replace hf := hk
  clear hk
  obtain ⟨fs_x45, ha_x45, hf⟩ := hf
  generalize hσ44 : hset σ40 v0 (.inl (11, fs_x45.set 10 (aR (some q38)))) = σ44 at hf
  refine r_putF (Cn := RX11) (Tt := TX11) (N := 12) (n := 10) (v := aR (some q38)) rfl uw_X11 (Nat.le_of_ble_eq_true rfl) wd_1_183 ha_x45 (ty0 := tyX11) tyX11_ok nmX11 rfl rfl rfl (fo_R _ (some q38)) dX11_init_66 ?_
  rw [hσ44]
  refine r_aload_n (j := 0) rfl rfl dX11_init_69 ?_
  obtain ⟨hbc, hbs, hf⟩ := hf
  refine r_new (t := 7) (Cn := RX7) (Tt := TX7) (N := 5) (fs := [aR none, aR none, aR none, aR none, aI 0]) (ty0 := tyX7) rfl uw_X7 tyX7_ok wd_1_149 wd_1_150 wd_1_6 rfl dfv_X7 hbc hbs dX11_init_70 (fun q46 hq_q46 => ?_)
  replace hf := hf q46 hq_q46
  generalize hset σ44 q46 (.inl (7, [aR none, aR none, aR none, aR none, aI 0])) = σ47 at hf ⊢
  refine r_dup rfl dX11_init_73 ?_
  obtain ⟨mz50, sz51, hbc, hbs, hf⟩ := hf
  try unfold C_X7_init at hf
  refine r_invINU (host := "CoinsLaid") (As := []) (dz := d) (mz := mz50) (sz := sz51) rfl (List.mem_of_getElem? (i := 4) rfl) wd_1_152 rfl rfl cf_X7_init (Nat.le_refl _) hbc hbs (cat_ok (Nat.le_of_ble_eq_true rfl)) dX11_init_74 hf (fun σ48 hk => ?_)
  replace hf := hk
  clear hk
  obtain ⟨fs_x53, ha_x53, hf⟩ := hf
  generalize hσ52 : hset σ48 v0 (.inl (11, fs_x53.set 11 (aR (some q46)))) = σ52 at hf
  refine r_putF (Cn := RX11) (Tt := TX11) (N := 12) (n := 11) (v := aR (some q46)) rfl uw_X11 (Nat.le_of_ble_eq_true rfl) wd_1_184 ha_x53 (ty0 := tyX11) tyX11_ok nmX11 rfl rfl rfl (fo_R _ (some q46)) dX11_init_77 ?_
  rw [hσ52]
  exact r_return rfl dX11_init_80 rfl ⟨rfl, hf⟩
theorem m_X11_init {l : Launch} {G : GG} {d : Nat} {mc ms : Nat} {v0 : Nat} {σ : Hp} {K : Hp → Prop} (hf : F_X11_init l G d v0 σ mc ms K) : C_X11_init l G (d + 1) mc ms v0 σ K := Sp.of (by decide) (Nat.le_of_ble_eq_true rfl) (b_X11_init_0 hf) rfl
def F_X11_feed (l : Launch) (G : GG) (d : Nat) (v0 : Nat) (v1 : Int32) (v2 : Int32) (v3 : Int32) (v4 : Int32) (v5 : Int32) (σ : Hp) (K : Int32 → Hp → Prop) : Prop :=
  fI σ v0 11 1 fun x1 =>
  ((x1 : Int32) ≤ (880 : Int32) →
    C_X11_append l G d v0 v1 σ fun σ2 =>
    C_X11_append l G d v0 v2 σ2 fun σ4 =>
    C_X11_append l G d v0 v3 σ4 fun σ6 =>
    C_X11_append l G d v0 v4 σ6 fun σ8 =>
    C_X11_append l G d v0 v5 σ8 fun σ10 =>
    fI σ10 v0 11 1 fun x12 =>
    K x12 σ10) ∧
  (¬ (x1 : Int32) ≤ (880 : Int32) →
    K (-1) σ)
set_option maxRecDepth 100000 in
set_option maxHeartbeats 4000000 in
theorem b_X11_feed_0 {l : Launch} {G : GG} {d : Nat} {v0 : Nat} {v1 : Int32} {v2 : Int32} {v3 : Int32} {v4 : Int32} {v5 : Int32} {σ : Hp} {K : Int32 → Hp → Prop} (hf : F_X11_feed l G d v0 v1 v2 v3 v4 v5 σ K) : Wd l G (d + 1) "CoinsLaid" yX11_feed cX11_feed 6 (some FieldType.int) 0 [(0, aR (some v0)), (1, aI v1), (2, aI v2), (3, aI v3), (4, aI v4), (5, aI v5)] [] σ 0 0 (xM (QI K)) := by
  unfold F_X11_feed at hf
  refine r_aload_n (j := 0) rfl rfl dX11_feed_0 ?_
  obtain ⟨fs_x1, x1, ha_x1, hv_x1, hf⟩ := hf
  refine r_get (Cn := RX11) (Tt := TX11) (N := 12) (n := 1) rfl uw_X11 (Nat.le_of_ble_eq_true rfl) wd_1_174 ha_x1 hv_x1 dX11_feed_1 ?_
  refine r_sipush (v := 880) (by decide) dX11_feed_4 ?_
  refine r_icmple (x := x1) (y := 880) (tgt := 12) (by decide) dX11_feed_7 (fun hc => ?_) (fun hc => ?_)
  · replace hf := hf.1 hc
    refine r_aload_n (j := 0) rfl rfl dX11_feed_12 ?_
    refine r_iload_n (j := 1) rfl rfl dX11_feed_13 ?_
    try unfold C_X11_append at hf
    obtain ⟨⟨fs_r3, ha_r3⟩, hf⟩ := hf
    refine r_invVU (t := 11) (As := [aI v1]) (dz := d) (mz := 0) (sz := 0) rfl wd_1_214 wd_1_216 wd_p_0 cf_X11_append (Nat.le_refl _) (Nat.zero_le _) (Nat.zero_le _) (cat_ok (Nat.le_of_ble_eq_true rfl)) rfl rfl ha_r3 dX11_feed_14 hf (fun σ2 hk => ?_)
    replace hf := hk
    clear hk
    refine r_aload_n (j := 0) rfl rfl dX11_feed_17 ?_
    refine r_iload_n (j := 2) rfl rfl dX11_feed_18 ?_
    try unfold C_X11_append at hf
    obtain ⟨⟨fs_r5, ha_r5⟩, hf⟩ := hf
    refine r_invVU (t := 11) (As := [aI v2]) (dz := d) (mz := 0) (sz := 0) rfl wd_1_214 wd_1_216 wd_p_0 cf_X11_append (Nat.le_refl _) (Nat.zero_le _) (Nat.zero_le _) (cat_ok (Nat.le_of_ble_eq_true rfl)) rfl rfl ha_r5 dX11_feed_19 hf (fun σ4 hk => ?_)
    replace hf := hk
    clear hk
    refine r_aload_n (j := 0) rfl rfl dX11_feed_22 ?_
    refine r_iload_n (j := 3) rfl rfl dX11_feed_23 ?_
    try unfold C_X11_append at hf
    obtain ⟨⟨fs_r7, ha_r7⟩, hf⟩ := hf
    refine r_invVU (t := 11) (As := [aI v3]) (dz := d) (mz := 0) (sz := 0) rfl wd_1_214 wd_1_216 wd_p_0 cf_X11_append (Nat.le_refl _) (Nat.zero_le _) (Nat.zero_le _) (cat_ok (Nat.le_of_ble_eq_true rfl)) rfl rfl ha_r7 dX11_feed_24 hf (fun σ6 hk => ?_)
    replace hf := hk
    clear hk
    refine r_aload_n (j := 0) rfl rfl dX11_feed_27 ?_
    refine r_iload (j := 4) rfl dX11_feed_28 ?_
    try unfold C_X11_append at hf
    obtain ⟨⟨fs_r9, ha_r9⟩, hf⟩ := hf
    refine r_invVU (t := 11) (As := [aI v4]) (dz := d) (mz := 0) (sz := 0) rfl wd_1_214 wd_1_216 wd_p_0 cf_X11_append (Nat.le_refl _) (Nat.zero_le _) (Nat.zero_le _) (cat_ok (Nat.le_of_ble_eq_true rfl)) rfl rfl ha_r9 dX11_feed_30 hf (fun σ8 hk => ?_)
    replace hf := hk
    clear hk
    refine r_aload_n (j := 0) rfl rfl dX11_feed_33 ?_
    refine r_iload (j := 5) rfl dX11_feed_34 ?_
    try unfold C_X11_append at hf
    obtain ⟨⟨fs_r11, ha_r11⟩, hf⟩ := hf
    refine r_invVU (t := 11) (As := [aI v5]) (dz := d) (mz := 0) (sz := 0) rfl wd_1_214 wd_1_216 wd_p_0 cf_X11_append (Nat.le_refl _) (Nat.zero_le _) (Nat.zero_le _) (cat_ok (Nat.le_of_ble_eq_true rfl)) rfl rfl ha_r11 dX11_feed_36 hf (fun σ10 hk => ?_)
    replace hf := hk
    clear hk
    refine r_aload_n (j := 0) rfl rfl dX11_feed_39 ?_
    obtain ⟨fs_x12, x12, ha_x12, hv_x12, hf⟩ := hf
    refine r_get (Cn := RX11) (Tt := TX11) (N := 12) (n := 1) rfl uw_X11 (Nat.le_of_ble_eq_true rfl) wd_1_174 ha_x12 hv_x12 dX11_feed_40 ?_
    exact r_ireturn rfl dX11_feed_43 rfl ⟨_, rfl, hf⟩
  · replace hf := hf.2 hc
    refine r_iconst (v := (-1)) (by decide) dX11_feed_10 ?_
    exact r_ireturn rfl dX11_feed_11 rfl ⟨_, rfl, hf⟩
theorem m_X11_feed {l : Launch} {G : GG} {d : Nat} {v0 : Nat} {v1 : Int32} {v2 : Int32} {v3 : Int32} {v4 : Int32} {v5 : Int32} {σ : Hp} {K : Int32 → Hp → Prop} (hr : rv σ v0 11) (hf : F_X11_feed l G d v0 v1 v2 v3 v4 v5 σ K) : C_X11_feed l G (d + 1) v0 v1 v2 v3 v4 v5 σ K := ⟨hr, Sp.of (by decide) (Nat.le_of_ble_eq_true rfl) (b_X11_feed_0 hf) rfl⟩
def F_X11_append_52 (l : Launch) (G : GG) (d : Nat) (X3 : Nat → Int32 → Int32 → Hp → Prop) (v0 : Nat) (v1 : Int32) (v2 : Int32) (σ : Hp) (K : Hp → Prop) : Prop :=
  X3 v0 v1 (v2 + (-8)) σ
set_option maxRecDepth 100000 in
set_option maxHeartbeats 4000000 in
theorem b_X11_append_52 {l : Launch} {G : GG} {d : Nat} {X3 : Nat → Int32 → Int32 → Hp → Prop} {v0 : Nat} {v1 : Int32} {v2 : Int32} {σ : Hp} {K : Hp → Prop} (hX3 : ∀ v0 v1 v2 σ, X3 v0 v1 v2 σ → Wd l G (d + 1) "CoinsLaid" yX11_append cX11_append 3 none 3 [(0, aR (some v0)), (1, aI v1), (2, aI v2)] [] σ 0 0 (xM (QV K))) (hf : F_X11_append_52 l G d X3 v0 v1 v2 σ K) : Wd l G (d + 1) "CoinsLaid" yX11_append cX11_append 3 none 52 [(0, aR (some v0)), (1, aI v1), (2, aI v2)] [] σ 0 0 (xM (QV K)) := by
  unfold F_X11_append_52 at hf
  refine r_iinc (j := 2) (w := (v2 + (-8))) (L' := [(2, aI (v2 + (-8))), (0, aR (some v0)), (1, aI v1)]) rfl (by rfl) rfl (Nat.le_of_ble_eq_true rfl) dX11_append_52 ?_
  refine r_goto (tgt := 3) (by decide) dX11_append_55 ?_
  exact r_sub [1, 2, 0] rfl (hX3 _ _ _ _ hf)
def F_X11_append_3 (l : Launch) (G : GG) (d : Nat) (X3 : Nat → Int32 → Int32 → Hp → Prop) (v0 : Nat) (v1 : Int32) (v2 : Int32) (σ : Hp) (K : Hp → Prop) : Prop :=
  ((v2 : Int32) < 0 →
    K σ) ∧
  (¬ (v2 : Int32) < 0 →
    fI σ v0 11 1 fun x1 =>
    ((x1 : Int32) < 0 →
      F_X11_append_52 l G d X3 v0 v1 v2 σ K) ∧
    (¬ (x1 : Int32) < 0 →
      fI σ v0 11 1 fun x2 =>
      fN σ v0 11 0 fun x3 =>
      aL σ x3 fun x4 =>
      ((x4 : Int32) ≤ (x2 : Int32) →
        F_X11_append_52 l G d X3 v0 v1 v2 σ K) ∧
      (¬ (x4 : Int32) ≤ (x2 : Int32) →
        fN σ v0 11 0 fun x5 =>
        fI σ v0 11 1 fun x6 =>
        sI σ x5 x6 ((((v1 : Int32).toUInt32 >>> ((v2 : Int32).toUInt32 &&& Int32.toUInt32 31)).toInt32) &&& 255) fun σ7 =>
        fI σ7 v0 11 1 fun x9 =>
        pF σ7 v0 11 1 (aI (x9 + 1)) fun σ10 =>
        F_X11_append_52 l G d X3 v0 v1 v2 σ10 K)))
set_option maxRecDepth 100000 in
set_option maxHeartbeats 4000000 in
theorem b_X11_append_3 {l : Launch} {G : GG} {d : Nat} {X3 : Nat → Int32 → Int32 → Hp → Prop} {v0 : Nat} {v1 : Int32} {v2 : Int32} {σ : Hp} {K : Hp → Prop} (hX3 : ∀ v0 v1 v2 σ, X3 v0 v1 v2 σ → Wd l G (d + 1) "CoinsLaid" yX11_append cX11_append 3 none 3 [(0, aR (some v0)), (1, aI v1), (2, aI v2)] [] σ 0 0 (xM (QV K))) (hf : F_X11_append_3 l G d X3 v0 v1 v2 σ K) : Wd l G (d + 1) "CoinsLaid" yX11_append cX11_append 3 none 3 [(0, aR (some v0)), (1, aI v1), (2, aI v2)] [] σ 0 0 (xM (QV K)) := by
  unfold F_X11_append_3 at hf
  refine r_iload_n (j := 2) rfl rfl dX11_append_3 ?_
  refine r_iflt (x := v2) (tgt := 58) (by decide) dX11_append_4 (fun hc => ?_) (fun hc => ?_)
  · replace hf := hf.1 hc
    exact r_return rfl dX11_append_58 rfl ⟨rfl, hf⟩
  · replace hf := hf.2 hc
    refine r_aload_n (j := 0) rfl rfl dX11_append_7 ?_
    obtain ⟨fs_x1, x1, ha_x1, hv_x1, hf⟩ := hf
    refine r_get (Cn := RX11) (Tt := TX11) (N := 12) (n := 1) rfl uw_X11 (Nat.le_of_ble_eq_true rfl) wd_1_174 ha_x1 hv_x1 dX11_append_8 ?_
    refine r_iflt (x := x1) (tgt := 52) (by decide) dX11_append_11 (fun hc => ?_) (fun hc => ?_)
    · replace hf := hf.1 hc
      exact r_sub [0, 1, 2] rfl (b_X11_append_52 hX3 hf)
    · replace hf := hf.2 hc
      refine r_aload_n (j := 0) rfl rfl dX11_append_14 ?_
      obtain ⟨fs_x2, x2, ha_x2, hv_x2, hf⟩ := hf
      refine r_get (Cn := RX11) (Tt := TX11) (N := 12) (n := 1) rfl uw_X11 (Nat.le_of_ble_eq_true rfl) wd_1_174 ha_x2 hv_x2 dX11_append_15 ?_
      refine r_aload_n (j := 0) rfl rfl dX11_append_18 ?_
      obtain ⟨fs_x3, x3, ha_x3, hv_x3, hf⟩ := hf
      refine r_get (Cn := RX11) (Tt := TX11) (N := 12) (n := 0) rfl uw_X11 (Nat.le_of_ble_eq_true rfl) wd_1_173 ha_x3 hv_x3 dX11_append_19 ?_
      obtain ⟨t_x4, N_x4, f_x4, ha_x4, hf⟩ := hf
      refine r_alen ha_x4 dX11_append_22 ?_
      generalize nI N_x4 = x4 at hf ⊢
      refine r_icmpge (x := x2) (y := x4) (tgt := 52) (by decide) dX11_append_23 (fun hc => ?_) (fun hc => ?_)
      · replace hf := hf.1 hc
        exact r_sub [0, 1, 2] rfl (b_X11_append_52 hX3 hf)
      · replace hf := hf.2 hc
        refine r_aload_n (j := 0) rfl rfl dX11_append_26 ?_
        obtain ⟨fs_x5, x5, ha_x5, hv_x5, hf⟩ := hf
        refine r_get (Cn := RX11) (Tt := TX11) (N := 12) (n := 0) rfl uw_X11 (Nat.le_of_ble_eq_true rfl) wd_1_173 ha_x5 hv_x5 dX11_append_27 ?_
        refine r_aload_n (j := 0) rfl rfl dX11_append_30 ?_
        obtain ⟨fs_x6, x6, ha_x6, hv_x6, hf⟩ := hf
        refine r_get (Cn := RX11) (Tt := TX11) (N := 12) (n := 1) rfl uw_X11 (Nat.le_of_ble_eq_true rfl) wd_1_174 ha_x6 hv_x6 dX11_append_31 ?_
        refine r_iload_n (j := 1) rfl rfl dX11_append_34 ?_
        refine r_iload_n (j := 2) rfl rfl dX11_append_35 ?_
        refine r_iushr (x := v1) (y := v2) dX11_append_36 ?_
        refine r_sipush (v := 255) (by decide) dX11_append_37 ?_
        refine r_iand (x := (((v1 : Int32).toUInt32 >>> ((v2 : Int32).toUInt32 &&& Int32.toUInt32 31)).toInt32)) (y := 255) dX11_append_40 ?_
        obtain ⟨N_x8, f_x8, ha_x8, hi_x8, hf⟩ := hf
        generalize hσ7 : hset σ x5 (iA N_x8 (up_ f_x8 (x6 : Int32).toNatClampNeg ((((v1 : Int32).toUInt32 >>> ((v2 : Int32).toUInt32 &&& Int32.toUInt32 31)).toInt32) &&& 255))) = σ7 at hf
        refine r_iast (f := f_x8) (x := ((((v1 : Int32).toUInt32 >>> ((v2 : Int32).toUInt32 &&& Int32.toUInt32 31)).toInt32) &&& 255)) ha_x8 hi_x8 dX11_append_41 ?_
        refine Eq.mpr (congrArg (fun z => Wd _ _ _ _ _ _ _ _ _ _ _ z _ _ _) hσ7) ?_
        refine r_aload_n (j := 0) rfl rfl dX11_append_42 ?_
        refine r_dup rfl dX11_append_43 ?_
        obtain ⟨fs_x9, x9, ha_x9, hv_x9, hf⟩ := hf
        refine r_get (Cn := RX11) (Tt := TX11) (N := 12) (n := 1) rfl uw_X11 (Nat.le_of_ble_eq_true rfl) wd_1_174 ha_x9 hv_x9 dX11_append_44 ?_
        refine r_iconst (v := 1) (by decide) dX11_append_47 ?_
        refine r_iadd (x := x9) (y := 1) dX11_append_48 ?_
        obtain ⟨fs_x11, ha_x11, hf⟩ := hf
        generalize hσ10 : hset σ7 v0 (.inl (11, fs_x11.set 1 (aI (x9 + 1)))) = σ10 at hf
        refine r_put (Cn := RX11) (Tt := TX11) (N := 12) (n := 1) (v := aI (x9 + 1)) rfl uw_X11 (Nat.le_of_ble_eq_true rfl) wd_1_174 ha_x11 (ty0 := tyX11) tyX11_ok nmX11 rfl (fo_I (x9 + 1)) dX11_append_49 ?_
        rw [hσ10]
        exact r_sub [0, 1, 2] rfl (b_X11_append_52 hX3 hf)
def Z_X11_append_3 (l : Launch) (G : GG) (d : Nat) (K : Hp → Prop) : Nat → Nat → Int32 → Int32 → Hp → Prop
  | 0 => fun _ _ _ _ => False
  | n + 1 => fun v0 v1 v2 σ => F_X11_append_3 l G d (Z_X11_append_3 l G d K n) v0 v1 v2 σ K
theorem z_X11_append_3 {l : Launch} {G : GG} {d : Nat} {K : Hp → Prop} : ∀ (n : Nat) v0 v1 v2 σ, Z_X11_append_3 l G d K n v0 v1 v2 σ → Wd l G (d + 1) "CoinsLaid" yX11_append cX11_append 3 none 3 [(0, aR (some v0)), (1, aI v1), (2, aI v2)] [] σ 0 0 (xM (QV K)) := by
  intro n
  induction n with
  | zero => intro v0 v1 v2 σ hf; exact hf.elim
  | succ n ih => intro v0 v1 v2 σ hf; exact b_X11_append_3 ih hf
def F_X11_append (l : Launch) (G : GG) (d : Nat) (v0 : Nat) (v1 : Int32) (σ : Hp) (K : Hp → Prop) : Prop :=
  ∃ n, Z_X11_append_3 l G d K n v0 v1 24 σ
set_option maxRecDepth 100000 in
set_option maxHeartbeats 4000000 in
theorem b_X11_append_0 {l : Launch} {G : GG} {d : Nat} {v0 : Nat} {v1 : Int32} {σ : Hp} {K : Hp → Prop} (hf : F_X11_append l G d v0 v1 σ K) : Wd l G (d + 1) "CoinsLaid" yX11_append cX11_append 3 none 0 [(0, aR (some v0)), (1, aI v1)] [] σ 0 0 (xM (QV K)) := by
  unfold F_X11_append at hf
  refine r_bipush (v := 24) (by decide) dX11_append_0 ?_
  refine r_istore_n (L' := [(2, aI 24), (0, aR (some v0)), (1, aI v1)]) rfl rfl (Nat.le_of_ble_eq_true rfl) dX11_append_2 ?_
  obtain ⟨n, hf⟩ := hf
  exact r_sub [1, 2, 0] rfl (z_X11_append_3 n _ _ _ _ hf)
theorem m_X11_append {l : Launch} {G : GG} {d : Nat} {v0 : Nat} {v1 : Int32} {σ : Hp} {K : Hp → Prop} (hr : rv σ v0 11) (hf : F_X11_append l G d v0 v1 σ K) : C_X11_append l G (d + 1) v0 v1 σ K := ⟨hr, Sp.of (by decide) (Nat.le_of_ble_eq_true rfl) (b_X11_append_0 hf) rfl⟩
def F_X11_table_12 (l : Launch) (G : GG) (d : Nat) (v0 : Nat) (σ : Hp) (bc bs : Nat) (K : Int32 → Hp → Prop) : Prop :=
  C_X11_refuse l G d v0 2 σ fun r2 σ1 =>
  K r2 σ1
set_option maxRecDepth 100000 in
set_option maxHeartbeats 4000000 in
theorem b_X11_table_12 {l : Launch} {G : GG} {d : Nat} {v0 : Nat} {σ : Hp} {bc bs : Nat} {K : Int32 → Hp → Prop} (hf : F_X11_table_12 l G d v0 σ bc bs K) : Wd l G (d + 1) "CoinsLaid" yX11_table cX11_table 4 (some FieldType.int) 12 [(0, aR (some v0))] [] σ bc bs (xM (QI K)) := by
  unfold F_X11_table_12 at hf
  refine r_aload_n (j := 0) rfl rfl dX11_table_12 ?_
  refine r_iconst (v := 2) (by decide) dX11_table_13 ?_
  try unfold C_X11_refuse at hf
  obtain ⟨⟨fs_r2, ha_r2⟩, hf⟩ := hf
  refine r_invVI (t := 11) (As := [aI 2]) (dz := d) (mz := 0) (sz := 0) rfl wd_1_222 wd_1_224 wd_p_1 cf_X11_refuse (Nat.le_refl _) (Nat.zero_le _) (Nat.zero_le _) (cat_ok (Nat.le_of_ble_eq_true rfl)) rfl rfl ha_r2 dX11_table_14 hf (fun r2 σ1 hk => ?_)
  replace hf := hk
  clear hk
  exact r_ireturn rfl dX11_table_17 rfl ⟨_, rfl, hf⟩
def F_X11_table (l : Launch) (G : GG) (d : Nat) (v0 : Nat) (v1 : Int32) (σ : Hp) (bc bs : Nat) (K : Int32 → Hp → Prop) : Prop :=
  ((v1 : Int32) < 0 →
    F_X11_table_12 l G d v0 σ bc bs K) ∧
  (¬ (v1 : Int32) < 0 →
    fI σ v0 11 1 fun x3 =>
    ((v1 : Int32) ≤ (x3 : Int32) →
      pF σ v0 11 1 (aI 0) fun σ4 =>
      fN σ4 v0 11 8 fun x6 =>
      C_X1_clear l G d x6 σ4 fun σ7 =>
      nO σ7 9 [aR none, aR none, aR none, aI 0, aI 0, aJ 0, aI 0, aI 0] 8 bc bs fun q9 σ10 =>
      nO σ10 10 [aR none, aI 0, aI 0, aI 0, aI 0] 5 (bc - 1) (bs - 8) fun q11 σ12 =>
      fN σ12 v0 11 0 fun x13 =>
      C_X10_init l G d q11 x13 v1 σ12 fun σ14 =>
      fN σ14 v0 11 8 fun x16 =>
      ∃ mz19 sz20, mz19 ≤ ((bc - 1) - 1) ∧ sz20 ≤ ((bs - 8) - 5) ∧ C_X9_init l G d mz19 sz20 q9 q11 x16 σ14 fun σ17 =>
      ∃ mz23 sz24, mz23 ≤ (((bc - 1) - 1) - mz19) ∧ sz24 ≤ (((bs - 8) - 5) - sz20) ∧ C_X9_readAll l G d mz23 sz24 q9 σ17 fun r22 σ21 =>
      fI σ21 q9 9 3 fun x25 =>
      pF σ21 v0 11 2 (aI x25) fun σ26 =>
      fI σ26 q9 9 4 fun x28 =>
      pF σ26 v0 11 3 (aI x28) fun σ29 =>
      (r22 = true →
        fN σ29 q9 9 2 fun x31 =>
        ∃ mz34 sz35, mz34 ≤ ((((bc - 1) - 1) - mz19) - mz23) ∧ sz35 ≤ ((((bs - 8) - 5) - sz20) - sz24) ∧ C_X11_begin l G d mz34 sz35 v0 x31 σ29 fun σ32 =>
        fR σ32 v0 11 5 fun x36 =>
        ∃ b37, x36 = some b37 ∧
        fN σ32 b37 8 8 fun x38 =>
        aL σ32 x38 fun x39 =>
        C_X11_accept l G d v0 x39 σ32 fun r41 σ40 =>
        K r41 σ40) ∧
      (r22 = false →
        C_X11_refuse l G d v0 4 σ29 fun r43 σ42 =>
        K r43 σ42)) ∧
    (¬ (v1 : Int32) ≤ (x3 : Int32) →
      F_X11_table_12 l G d v0 σ bc bs K))
set_option maxRecDepth 100000 in
set_option maxHeartbeats 4000000 in
theorem b_X11_table_0 {l : Launch} {G : GG} {d : Nat} {v0 : Nat} {v1 : Int32} {σ : Hp} {bc bs : Nat} {K : Int32 → Hp → Prop} (hf : F_X11_table l G d v0 v1 σ bc bs K) : Wd l G (d + 1) "CoinsLaid" yX11_table cX11_table 4 (some FieldType.int) 0 [(0, aR (some v0)), (1, aI v1)] [] σ bc bs (xM (QI K)) := by
  unfold F_X11_table at hf
  refine r_iload_n (j := 1) rfl rfl dX11_table_0 ?_
  refine r_iflt (x := v1) (tgt := 12) (by decide) dX11_table_1 (fun hc => ?_) (fun hc => ?_)
  · replace hf := hf.1 hc
    exact r_sub [0] rfl (b_X11_table_12 hf)
  · replace hf := hf.2 hc
    refine r_iload_n (j := 1) rfl rfl dX11_table_4 ?_
    refine r_aload_n (j := 0) rfl rfl dX11_table_5 ?_
    obtain ⟨fs_x3, x3, ha_x3, hv_x3, hf⟩ := hf
    refine r_get (Cn := RX11) (Tt := TX11) (N := 12) (n := 1) rfl uw_X11 (Nat.le_of_ble_eq_true rfl) wd_1_174 ha_x3 hv_x3 dX11_table_6 ?_
    refine r_icmple (x := v1) (y := x3) (tgt := 18) (by decide) dX11_table_9 (fun hc => ?_) (fun hc => ?_)
    · replace hf := hf.1 hc
      refine r_aload_n (j := 0) rfl rfl dX11_table_18 ?_
      refine r_iconst (v := 0) (by decide) dX11_table_19 ?_
      obtain ⟨fs_x5, ha_x5, hf⟩ := hf
      generalize hσ4 : hset σ v0 (.inl (11, fs_x5.set 1 (aI 0))) = σ4 at hf
      refine r_put (Cn := RX11) (Tt := TX11) (N := 12) (n := 1) (v := aI 0) rfl uw_X11 (Nat.le_of_ble_eq_true rfl) wd_1_174 ha_x5 (ty0 := tyX11) tyX11_ok nmX11 rfl (fo_I 0) dX11_table_20 ?_
      rw [hσ4]
      refine r_aload_n (j := 0) rfl rfl dX11_table_23 ?_
      obtain ⟨fs_x6, x6, ha_x6, hv_x6, hf⟩ := hf
      refine r_get (Cn := RX11) (Tt := TX11) (N := 12) (n := 8) rfl uw_X11 (Nat.le_of_ble_eq_true rfl) wd_1_181 ha_x6 hv_x6 dX11_table_24 ?_
      try unfold C_X1_clear at hf
      obtain ⟨⟨fs_r8, ha_r8⟩, hf⟩ := hf
      refine r_invVU (t := 1) (As := []) (dz := d) (mz := 0) (sz := 0) rfl wd_1_226 wd_1_227 wd_1_228 cf_X1_clear (Nat.le_refl _) (Nat.zero_le _) (Nat.zero_le _) (cat_ok (Nat.le_of_ble_eq_true rfl)) rfl rfl ha_r8 dX11_table_27 hf (fun σ7 hk => ?_)
      replace hf := hk
      clear hk
      obtain ⟨hbc, hbs, hf⟩ := hf
      refine r_new (t := 9) (Cn := RX9) (Tt := TX9) (N := 8) (fs := [aR none, aR none, aR none, aI 0, aI 0, aJ 0, aI 0, aI 0]) (ty0 := tyX9) rfl uw_X9 tyX9_ok wd_1_230 wd_1_231 wd_1_8 rfl dfv_X9 hbc hbs dX11_table_30 (fun q9 hq_q9 => ?_)
      replace hf := hf q9 hq_q9
      generalize hset σ7 q9 (.inl (9, [aR none, aR none, aR none, aI 0, aI 0, aJ 0, aI 0, aI 0])) = σ10 at hf ⊢
      refine r_dup rfl dX11_table_33 ?_
      obtain ⟨hbc, hbs, hf⟩ := hf
      refine r_new (t := 10) (Cn := RX10) (Tt := TX10) (N := 5) (fs := [aR none, aI 0, aI 0, aI 0, aI 0]) (ty0 := tyX10) rfl uw_X10 tyX10_ok wd_1_232 wd_1_233 wd_1_9 rfl dfv_X10 hbc hbs dX11_table_34 (fun q11 hq_q11 => ?_)
      replace hf := hf q11 hq_q11
      generalize hset σ10 q11 (.inl (10, [aR none, aI 0, aI 0, aI 0, aI 0])) = σ12 at hf ⊢
      refine r_dup rfl dX11_table_37 ?_
      refine r_aload_n (j := 0) rfl rfl dX11_table_38 ?_
      obtain ⟨fs_x13, x13, ha_x13, hv_x13, hf⟩ := hf
      refine r_get (Cn := RX11) (Tt := TX11) (N := 12) (n := 0) rfl uw_X11 (Nat.le_of_ble_eq_true rfl) wd_1_173 ha_x13 hv_x13 dX11_table_39 ?_
      refine r_iload_n (j := 1) rfl rfl dX11_table_42 ?_
      try unfold C_X10_init at hf
      refine r_invIU (As := [aR (some x13), aI v1]) (dz := d) (mz := 0) (sz := 0) rfl wd_1_234 wd_1_235 rfl rfl cf_X10_init (Nat.le_refl _) (Nat.zero_le _) (Nat.zero_le _) (cat_ok (Nat.le_of_ble_eq_true rfl)) dX11_table_43 hf (fun σ14 hk => ?_)
      replace hf := hk
      clear hk
      refine r_aload_n (j := 0) rfl rfl dX11_table_46 ?_
      obtain ⟨fs_x16, x16, ha_x16, hv_x16, hf⟩ := hf
      refine r_get (Cn := RX11) (Tt := TX11) (N := 12) (n := 8) rfl uw_X11 (Nat.le_of_ble_eq_true rfl) wd_1_181 ha_x16 hv_x16 dX11_table_47 ?_
      obtain ⟨mz19, sz20, hbc, hbs, hf⟩ := hf
      try unfold C_X9_init at hf
      refine r_invIU (As := [aR (some q11), aR (some x16)]) (dz := d) (mz := mz19) (sz := sz20) rfl wd_2_17 wd_2_18 rfl rfl cf_X9_init (Nat.le_refl _) hbc hbs (cat_ok (Nat.le_of_ble_eq_true rfl)) dX11_table_50 hf (fun σ17 hk => ?_)
      replace hf := hk
      clear hk
      refine r_astore_n (L' := [(2, aR (some q9)), (0, aR (some v0)), (1, aI v1)]) rfl rfl (Nat.le_of_ble_eq_true rfl) dX11_table_53 ?_
      refine r_aload_n (j := 0) rfl rfl dX11_table_54 ?_
      obtain ⟨mz23, sz24, hbc, hbs, hf⟩ := hf
      try unfold C_X9_readAll at hf
      obtain ⟨⟨fs_r22, ha_r22⟩, hf⟩ := hf
      refine r_invVZ (t := 9) (As := []) (dz := d) (mz := mz23) (sz := sz24) rfl wd_2_130 wd_2_131 wd_2_132 cf_X9_readAll (Nat.le_refl _) hbc hbs (cat_ok (Nat.le_of_ble_eq_true rfl)) rfl rfl ha_r22 dX11_table_55 hf (fun r22 σ21 hk => ?_)
      replace hf := hk
      clear hk
      refine r_istore_n (L' := [(3, aI (bi r22)), (2, aR (some q9)), (0, aR (some v0)), (1, aI v1)]) rfl rfl (Nat.le_of_ble_eq_true rfl) dX11_table_58 ?_
      refine r_aload_n (j := 2) rfl rfl dX11_table_59 ?_
      refine r_aload_n (j := 1) rfl rfl dX11_table_60 ?_
      obtain ⟨fs_x25, x25, ha_x25, hv_x25, hf⟩ := hf
      refine r_get (Cn := RX9) (Tt := TX9) (N := 8) (n := 3) rfl uw_X9 (Nat.le_of_ble_eq_true rfl) wd_2_106 ha_x25 hv_x25 dX11_table_61 ?_
      obtain ⟨fs_x27, ha_x27, hf⟩ := hf
      generalize hσ26 : hset σ21 v0 (.inl (11, fs_x27.set 2 (aI x25))) = σ26 at hf
      refine r_put (Cn := RX11) (Tt := TX11) (N := 12) (n := 2) (v := aI x25) rfl uw_X11 (Nat.le_of_ble_eq_true rfl) wd_1_175 ha_x27 (ty0 := tyX11) tyX11_ok nmX11 rfl (fo_I x25) dX11_table_64 ?_
      rw [hσ26]
      refine r_aload_n (j := 2) rfl rfl dX11_table_67 ?_
      refine r_aload_n (j := 1) rfl rfl dX11_table_68 ?_
      obtain ⟨fs_x28, x28, ha_x28, hv_x28, hf⟩ := hf
      refine r_get (Cn := RX9) (Tt := TX9) (N := 8) (n := 4) rfl uw_X9 (Nat.le_of_ble_eq_true rfl) wd_2_108 ha_x28 hv_x28 dX11_table_69 ?_
      obtain ⟨fs_x30, ha_x30, hf⟩ := hf
      generalize hσ29 : hset σ26 v0 (.inl (11, fs_x30.set 3 (aI x28))) = σ29 at hf
      refine r_put (Cn := RX11) (Tt := TX11) (N := 12) (n := 3) (v := aI x28) rfl uw_X11 (Nat.le_of_ble_eq_true rfl) wd_1_176 ha_x30 (ty0 := tyX11) tyX11_ok nmX11 rfl (fo_I x28) dX11_table_72 ?_
      rw [hσ29]
      refine r_iload_n (j := 0) rfl rfl dX11_table_75 ?_
      refine r_ifneZ (b := r22) (tgt := 85) (by decide) dX11_table_76 (fun hc => ?_) (fun hc => ?_)
      · replace hf := hf.1 hc
        refine r_aload_n (j := 2) rfl rfl dX11_table_85 ?_
        refine r_aload_n (j := 1) rfl rfl dX11_table_86 ?_
        obtain ⟨fs_x31, x31, ha_x31, hv_x31, hf⟩ := hf
        refine r_get (Cn := RX9) (Tt := TX9) (N := 8) (n := 2) rfl uw_X9 (Nat.le_of_ble_eq_true rfl) wd_2_105 ha_x31 hv_x31 dX11_table_87 ?_
        obtain ⟨mz34, sz35, hbc, hbs, hf⟩ := hf
        try unfold C_X11_begin at hf
        obtain ⟨⟨fs_r33, ha_r33⟩, hf⟩ := hf
        refine r_invVU (t := 11) (As := [aR (some x31)]) (dz := d) (mz := mz34) (sz := sz35) rfl wd_4_98 wd_4_100 wd_p_29 cf_X11_begin (Nat.le_refl _) hbc hbs (cat_ok (Nat.le_of_ble_eq_true rfl)) rfl rfl ha_r33 dX11_table_90 hf (fun σ32 hk => ?_)
        replace hf := hk
        clear hk
        refine r_aload_n (j := 2) rfl rfl dX11_table_93 ?_
        refine r_aload_n (j := 2) rfl rfl dX11_table_94 ?_
        obtain ⟨fs_x36, x36, ha_x36, hv_x36, hf⟩ := hf
        refine r_get (Cn := RX11) (Tt := TX11) (N := 12) (n := 5) rfl uw_X11 (Nat.le_of_ble_eq_true rfl) wd_1_178 ha_x36 hv_x36 dX11_table_95 ?_
        obtain ⟨b37, hb_b37, hf⟩ := hf
        subst hb_b37
        obtain ⟨fs_x38, x38, ha_x38, hv_x38, hf⟩ := hf
        refine r_get (Cn := RX8) (Tt := TX8) (N := 9) (n := 8) rfl uw_X8 (Nat.le_of_ble_eq_true rfl) wd_2_80 ha_x38 hv_x38 dX11_table_98 ?_
        obtain ⟨t_x39, N_x39, f_x39, ha_x39, hf⟩ := hf
        refine r_alen ha_x39 dX11_table_101 ?_
        generalize nI N_x39 = x39 at hf ⊢
        try unfold C_X11_accept at hf
        obtain ⟨⟨fs_r41, ha_r41⟩, hf⟩ := hf
        refine r_invVI (t := 11) (As := [aI x39]) (dz := d) (mz := 0) (sz := 0) rfl wd_4_118 wd_4_120 wd_p_30 cf_X11_accept (Nat.le_refl _) (Nat.zero_le _) (Nat.zero_le _) (cat_ok (Nat.le_of_ble_eq_true rfl)) rfl rfl ha_r41 dX11_table_102 hf (fun r41 σ40 hk => ?_)
        replace hf := hk
        clear hk
        exact r_ireturn rfl dX11_table_105 rfl ⟨_, rfl, hf⟩
      · replace hf := hf.2 hc
        refine r_aload_n (j := 2) rfl rfl dX11_table_79 ?_
        refine r_iconst (v := 4) (by decide) dX11_table_80 ?_
        try unfold C_X11_refuse at hf
        obtain ⟨⟨fs_r43, ha_r43⟩, hf⟩ := hf
        refine r_invVI (t := 11) (As := [aI 4]) (dz := d) (mz := 0) (sz := 0) rfl wd_1_222 wd_1_224 wd_p_1 cf_X11_refuse (Nat.le_refl _) (Nat.zero_le _) (Nat.zero_le _) (cat_ok (Nat.le_of_ble_eq_true rfl)) rfl rfl ha_r43 dX11_table_81 hf (fun r43 σ42 hk => ?_)
        replace hf := hk
        clear hk
        exact r_ireturn rfl dX11_table_84 rfl ⟨_, rfl, hf⟩
    · replace hf := hf.2 hc
      exact r_sub [0] rfl (b_X11_table_12 hf)
theorem m_X11_table {l : Launch} {G : GG} {d : Nat} {mc ms : Nat} {v0 : Nat} {v1 : Int32} {σ : Hp} {K : Int32 → Hp → Prop} (hr : rv σ v0 11) (hf : F_X11_table l G d v0 v1 σ mc ms K) : C_X11_table l G (d + 1) mc ms v0 v1 σ K := ⟨hr, Sp.of (by decide) (Nat.le_of_ble_eq_true rfl) (b_X11_table_0 hf) rfl⟩
def F_X11_begin_49 (l : Launch) (G : GG) (d : Nat) (v0 : Nat) (v1 : Nat) (σ : Hp) (bc bs : Nat) (K : Hp → Prop) : Prop :=
  fN σ v0 11 6 fun x1 =>
  C_X3_turnTo l G d x1 v1 σ fun σ2 =>
  K σ2
set_option maxRecDepth 100000 in
set_option maxHeartbeats 4000000 in
theorem b_X11_begin_49 {l : Launch} {G : GG} {d : Nat} {v0 : Nat} {v1 : Nat} {σ : Hp} {bc bs : Nat} {K : Hp → Prop} (hf : F_X11_begin_49 l G d v0 v1 σ bc bs K) : Wd l G (d + 1) "CoinsLaid" yX11_begin cX11_begin 2 none 49 [(0, aR (some v0)), (1, aR (some v1))] [] σ bc bs (xM (QV K)) := by
  unfold F_X11_begin_49 at hf
  refine r_aload_n (j := 0) rfl rfl dX11_begin_49 ?_
  obtain ⟨fs_x1, x1, ha_x1, hv_x1, hf⟩ := hf
  refine r_get (Cn := RX11) (Tt := TX11) (N := 12) (n := 6) rfl uw_X11 (Nat.le_of_ble_eq_true rfl) wd_1_179 ha_x1 hv_x1 dX11_begin_50 ?_
  refine r_aload_n (j := 1) rfl rfl dX11_begin_53 ?_
  try unfold C_X3_turnTo at hf
  obtain ⟨⟨fs_r3, ha_r3⟩, hf⟩ := hf
  refine r_invVU (t := 3) (As := [aR (some v1)]) (dz := d) (mz := 0) (sz := 0) rfl wd_4_114 wd_4_115 wd_4_116 cf_X3_turnTo (Nat.le_refl _) (Nat.zero_le _) (Nat.zero_le _) (cat_ok (Nat.le_of_ble_eq_true rfl)) rfl rfl ha_r3 dX11_begin_54 hf (fun σ2 hk => ?_)
  replace hf := hk
  clear hk
  exact r_return rfl dX11_begin_57 rfl ⟨rfl, hf⟩
def F_X11_begin (l : Launch) (G : GG) (d : Nat) (v0 : Nat) (v1 : Nat) (σ : Hp) (bc bs : Nat) (K : Hp → Prop) : Prop :=
  pF σ v0 11 5 (aR (some v1)) fun σ4 =>
  fN σ4 v0 11 7 fun x6 =>
  fN σ4 v0 11 8 fun x7 =>
  C_X1_copy l G d x6 x7 σ4 fun σ8 =>
  fN σ8 v0 11 9 fun x10 =>
  C_X4_clear l G d x10 σ8 fun σ11 =>
  fN σ11 v0 11 6 fun x13 =>
  C_X3_hasRoomFor l G d x13 v1 σ11 fun r15 σ14 =>
  (r15 = true →
    F_X11_begin_49 l G d v0 v1 σ14 bc bs K) ∧
  (r15 = false →
    nO σ14 3 [aR none, aI 0, aR none, aR none, aR none, aR none, aR none, aR none, aR none, aR none, aR none] 11 bc bs fun q16 σ17 =>
    fI σ17 v1 8 5 fun x18 =>
    ∃ mz21 sz22, mz21 ≤ (bc - 1) ∧ sz22 ≤ (bs - 11) ∧ C_X3_init l G d mz21 sz22 q16 x18 σ17 fun σ19 =>
    pF σ19 v0 11 6 (aR (some q16)) fun σ23 =>
    F_X11_begin_49 l G d v0 v1 σ23 ((bc - 1) - mz21) ((bs - 11) - sz22) K)
set_option maxRecDepth 100000 in
set_option maxHeartbeats 4000000 in
theorem b_X11_begin_0 {l : Launch} {G : GG} {d : Nat} {v0 : Nat} {v1 : Nat} {σ : Hp} {bc bs : Nat} {K : Hp → Prop} (hf : F_X11_begin l G d v0 v1 σ bc bs K) : Wd l G (d + 1) "CoinsLaid" yX11_begin cX11_begin 2 none 0 [(0, aR (some v0)), (1, aR (some v1))] [] σ bc bs (xM (QV K)) := by
  unfold F_X11_begin at hf
  refine r_aload_n (j := 0) rfl rfl dX11_begin_0 ?_
  refine r_aload_n (j := 1) rfl rfl dX11_begin_1 ?_
  obtain ⟨fs_x5, ha_x5, hf⟩ := hf
  generalize hσ4 : hset σ v0 (.inl (11, fs_x5.set 5 (aR (some v1)))) = σ4 at hf
  refine r_put (Cn := RX11) (Tt := TX11) (N := 12) (n := 5) (v := aR (some v1)) rfl uw_X11 (Nat.le_of_ble_eq_true rfl) wd_1_178 ha_x5 (ty0 := tyX11) tyX11_ok nmX11 rfl (fo_R _ (some v1)) dX11_begin_2 ?_
  rw [hσ4]
  refine r_aload_n (j := 0) rfl rfl dX11_begin_5 ?_
  obtain ⟨fs_x6, x6, ha_x6, hv_x6, hf⟩ := hf
  refine r_get (Cn := RX11) (Tt := TX11) (N := 12) (n := 7) rfl uw_X11 (Nat.le_of_ble_eq_true rfl) wd_1_180 ha_x6 hv_x6 dX11_begin_6 ?_
  refine r_aload_n (j := 0) rfl rfl dX11_begin_9 ?_
  obtain ⟨fs_x7, x7, ha_x7, hv_x7, hf⟩ := hf
  refine r_get (Cn := RX11) (Tt := TX11) (N := 12) (n := 8) rfl uw_X11 (Nat.le_of_ble_eq_true rfl) wd_1_181 ha_x7 hv_x7 dX11_begin_10 ?_
  try unfold C_X1_copy at hf
  obtain ⟨⟨fs_r9, ha_r9⟩, hf⟩ := hf
  refine r_invVU (t := 1) (As := [aR (some x7)]) (dz := d) (mz := 0) (sz := 0) rfl wd_4_102 wd_4_103 wd_4_104 cf_X1_copy (Nat.le_refl _) (Nat.zero_le _) (Nat.zero_le _) (cat_ok (Nat.le_of_ble_eq_true rfl)) rfl rfl ha_r9 dX11_begin_13 hf (fun σ8 hk => ?_)
  replace hf := hk
  clear hk
  refine r_aload_n (j := 0) rfl rfl dX11_begin_16 ?_
  obtain ⟨fs_x10, x10, ha_x10, hv_x10, hf⟩ := hf
  refine r_get (Cn := RX11) (Tt := TX11) (N := 12) (n := 9) rfl uw_X11 (Nat.le_of_ble_eq_true rfl) wd_1_182 ha_x10 hv_x10 dX11_begin_17 ?_
  try unfold C_X4_clear at hf
  obtain ⟨⟨fs_r12, ha_r12⟩, hf⟩ := hf
  refine r_invVU (t := 4) (As := []) (dz := d) (mz := 0) (sz := 0) rfl wd_4_106 wd_4_107 wd_4_108 cf_X4_clear (Nat.le_refl _) (Nat.zero_le _) (Nat.zero_le _) (cat_ok (Nat.le_of_ble_eq_true rfl)) rfl rfl ha_r12 dX11_begin_20 hf (fun σ11 hk => ?_)
  replace hf := hk
  clear hk
  refine r_aload_n (j := 0) rfl rfl dX11_begin_23 ?_
  obtain ⟨fs_x13, x13, ha_x13, hv_x13, hf⟩ := hf
  refine r_get (Cn := RX11) (Tt := TX11) (N := 12) (n := 6) rfl uw_X11 (Nat.le_of_ble_eq_true rfl) wd_1_179 ha_x13 hv_x13 dX11_begin_24 ?_
  refine r_aload_n (j := 1) rfl rfl dX11_begin_27 ?_
  try unfold C_X3_hasRoomFor at hf
  obtain ⟨⟨fs_r15, ha_r15⟩, hf⟩ := hf
  refine r_invVZ (t := 3) (As := [aR (some v1)]) (dz := d) (mz := 0) (sz := 0) rfl wd_4_110 wd_4_111 wd_4_112 cf_X3_hasRoomFor (Nat.le_refl _) (Nat.zero_le _) (Nat.zero_le _) (cat_ok (Nat.le_of_ble_eq_true rfl)) rfl rfl ha_r15 dX11_begin_28 hf (fun r15 σ14 hk => ?_)
  replace hf := hk
  clear hk
  refine r_ifneZ (b := r15) (tgt := 49) (by decide) dX11_begin_31 (fun hc => ?_) (fun hc => ?_)
  · replace hf := hf.1 hc
    exact r_sub [0, 1] rfl (b_X11_begin_49 hf)
  · replace hf := hf.2 hc
    refine r_aload_n (j := 0) rfl rfl dX11_begin_34 ?_
    obtain ⟨hbc, hbs, hf⟩ := hf
    refine r_new (t := 3) (Cn := RX3) (Tt := TX3) (N := 11) (fs := [aR none, aI 0, aR none, aR none, aR none, aR none, aR none, aR none, aR none, aR none, aR none]) (ty0 := tyX3) rfl uw_X3 tyX3_ok wd_1_39 wd_1_40 wd_1_2 rfl dfv_X3 hbc hbs dX11_begin_35 (fun q16 hq_q16 => ?_)
    replace hf := hf q16 hq_q16
    generalize hset σ14 q16 (.inl (3, [aR none, aI 0, aR none, aR none, aR none, aR none, aR none, aR none, aR none, aR none, aR none])) = σ17 at hf ⊢
    refine r_dup rfl dX11_begin_38 ?_
    refine r_aload_n (j := 1) rfl rfl dX11_begin_39 ?_
    obtain ⟨fs_x18, x18, ha_x18, hv_x18, hf⟩ := hf
    refine r_get (Cn := RX8) (Tt := TX8) (N := 9) (n := 5) rfl uw_X8 (Nat.le_of_ble_eq_true rfl) wd_2_71 ha_x18 hv_x18 dX11_begin_40 ?_
    obtain ⟨mz21, sz22, hbc, hbs, hf⟩ := hf
    try unfold C_X3_init at hf
    refine r_invIU (As := [aI x18]) (dz := d) (mz := mz21) (sz := sz22) rfl wd_1_41 wd_1_42 rfl rfl cf_X3_init (Nat.le_refl _) hbc hbs (cat_ok (Nat.le_of_ble_eq_true rfl)) dX11_begin_43 hf (fun σ19 hk => ?_)
    replace hf := hk
    clear hk
    obtain ⟨fs_x24, ha_x24, hf⟩ := hf
    generalize hσ23 : hset σ19 v0 (.inl (11, fs_x24.set 6 (aR (some q16)))) = σ23 at hf
    refine r_put (Cn := RX11) (Tt := TX11) (N := 12) (n := 6) (v := aR (some q16)) rfl uw_X11 (Nat.le_of_ble_eq_true rfl) wd_1_179 ha_x24 (ty0 := tyX11) tyX11_ok nmX11 rfl (fo_R _ (some q16)) dX11_begin_46 ?_
    rw [hσ23]
    exact r_sub [0, 1] rfl (b_X11_begin_49 hf)
theorem m_X11_begin {l : Launch} {G : GG} {d : Nat} {mc ms : Nat} {v0 : Nat} {v1 : Nat} {σ : Hp} {K : Hp → Prop} (hr : rv σ v0 11) (hf : F_X11_begin l G d v0 v1 σ mc ms K) : C_X11_begin l G (d + 1) mc ms v0 v1 σ K := ⟨hr, Sp.of (by decide) (Nat.le_of_ble_eq_true rfl) (b_X11_begin_0 hf) rfl⟩
def F_X11_fault (l : Launch) (G : GG) (d : Nat) (v0 : Nat) (σ : Hp) (K : Int32 → Hp → Prop) : Prop :=
  fI σ v0 11 2 fun x1 =>
  K x1 σ
set_option maxRecDepth 100000 in
set_option maxHeartbeats 4000000 in
theorem b_X11_fault_0 {l : Launch} {G : GG} {d : Nat} {v0 : Nat} {σ : Hp} {K : Int32 → Hp → Prop} (hf : F_X11_fault l G d v0 σ K) : Wd l G (d + 1) "CoinsLaid" yX11_fault cX11_fault 1 (some FieldType.int) 0 [(0, aR (some v0))] [] σ 0 0 (xM (QI K)) := by
  unfold F_X11_fault at hf
  refine r_aload_n (j := 0) rfl rfl dX11_fault_0 ?_
  obtain ⟨fs_x1, x1, ha_x1, hv_x1, hf⟩ := hf
  refine r_get (Cn := RX11) (Tt := TX11) (N := 12) (n := 2) rfl uw_X11 (Nat.le_of_ble_eq_true rfl) wd_1_175 ha_x1 hv_x1 dX11_fault_1 ?_
  exact r_ireturn rfl dX11_fault_4 rfl ⟨_, rfl, hf⟩
theorem m_X11_fault {l : Launch} {G : GG} {d : Nat} {v0 : Nat} {σ : Hp} {K : Int32 → Hp → Prop} (hr : rv σ v0 11) (hf : F_X11_fault l G d v0 σ K) : C_X11_fault l G (d + 1) v0 σ K := ⟨hr, Sp.of (by decide) (Nat.le_of_ble_eq_true rfl) (b_X11_fault_0 hf) rfl⟩
def F_X11_where_16 (l : Launch) (G : GG) (d : Nat) (s0 : Int32) (σ : Hp) (K : Int32 → Hp → Prop) : Prop :=
  K s0 σ
set_option maxRecDepth 100000 in
set_option maxHeartbeats 4000000 in
theorem b_X11_where_16 {l : Launch} {G : GG} {d : Nat} {s0 : Int32} {σ : Hp} {K : Int32 → Hp → Prop} (hf : F_X11_where_16 l G d s0 σ K) : Wd l G (d + 1) "CoinsLaid" yX11_where cX11_where 1 (some FieldType.int) 16 [] [aI s0] σ 0 0 (xM (QI K)) := by
  unfold F_X11_where_16 at hf
  exact r_ireturn rfl dX11_where_16 rfl ⟨_, rfl, hf⟩
def F_X11_where (l : Launch) (G : GG) (d : Nat) (v0 : Nat) (σ : Hp) (K : Int32 → Hp → Prop) : Prop :=
  fI σ v0 11 4 fun x1 =>
  (¬ (x1 : Int32) = (4 : Int32) →
    F_X11_where_16 l G d (-1) σ K) ∧
  ((x1 : Int32) = (4 : Int32) →
    fI σ v0 11 3 fun x2 =>
    F_X11_where_16 l G d x2 σ K)
set_option maxRecDepth 100000 in
set_option maxHeartbeats 4000000 in
theorem b_X11_where_0 {l : Launch} {G : GG} {d : Nat} {v0 : Nat} {σ : Hp} {K : Int32 → Hp → Prop} (hf : F_X11_where l G d v0 σ K) : Wd l G (d + 1) "CoinsLaid" yX11_where cX11_where 1 (some FieldType.int) 0 [(0, aR (some v0))] [] σ 0 0 (xM (QI K)) := by
  unfold F_X11_where at hf
  refine r_aload_n (j := 0) rfl rfl dX11_where_0 ?_
  obtain ⟨fs_x1, x1, ha_x1, hv_x1, hf⟩ := hf
  refine r_get (Cn := RX11) (Tt := TX11) (N := 12) (n := 4) rfl uw_X11 (Nat.le_of_ble_eq_true rfl) wd_1_177 ha_x1 hv_x1 dX11_where_1 ?_
  refine r_iconst (v := 4) (by decide) dX11_where_4 ?_
  refine r_icmpne (x := x1) (y := 4) (tgt := 15) (by decide) dX11_where_5 (fun hc => ?_) (fun hc => ?_)
  · replace hf := hf.1 hc
    refine r_iconst (v := (-1)) (by decide) dX11_where_15 ?_
    exact r_sub [] rfl (b_X11_where_16 hf)
  · replace hf := hf.2 hc
    refine r_aload_n (j := 0) rfl rfl dX11_where_8 ?_
    obtain ⟨fs_x2, x2, ha_x2, hv_x2, hf⟩ := hf
    refine r_get (Cn := RX11) (Tt := TX11) (N := 12) (n := 3) rfl uw_X11 (Nat.le_of_ble_eq_true rfl) wd_1_176 ha_x2 hv_x2 dX11_where_9 ?_
    refine r_goto (tgt := 16) (by decide) dX11_where_12 ?_
    exact r_sub [] rfl (b_X11_where_16 hf)
theorem m_X11_where {l : Launch} {G : GG} {d : Nat} {v0 : Nat} {σ : Hp} {K : Int32 → Hp → Prop} (hr : rv σ v0 11) (hf : F_X11_where l G d v0 σ K) : C_X11_where l G (d + 1) v0 σ K := ⟨hr, Sp.of (by decide) (Nat.le_of_ble_eq_true rfl) (b_X11_where_0 hf) rfl⟩
def F_X11_lay_19 (l : Launch) (G : GG) (d : Nat) (v0 : Nat) (σ : Hp) (K : Int32 → Hp → Prop) : Prop :=
  C_X11_refuse l G d v0 1 σ fun r2 σ1 =>
  K r2 σ1
set_option maxRecDepth 100000 in
set_option maxHeartbeats 4000000 in
theorem b_X11_lay_19 {l : Launch} {G : GG} {d : Nat} {v0 : Nat} {σ : Hp} {K : Int32 → Hp → Prop} (hf : F_X11_lay_19 l G d v0 σ K) : Wd l G (d + 1) "CoinsLaid" yX11_lay cX11_lay 4 (some FieldType.int) 19 [(0, aR (some v0))] [] σ 0 0 (xM (QI K)) := by
  unfold F_X11_lay_19 at hf
  refine r_aload_n (j := 0) rfl rfl dX11_lay_19 ?_
  refine r_iconst (v := 1) (by decide) dX11_lay_20 ?_
  try unfold C_X11_refuse at hf
  obtain ⟨⟨fs_r2, ha_r2⟩, hf⟩ := hf
  refine r_invVI (t := 11) (As := [aI 1]) (dz := d) (mz := 0) (sz := 0) rfl wd_1_222 wd_1_224 wd_p_1 cf_X11_refuse (Nat.le_refl _) (Nat.zero_le _) (Nat.zero_le _) (cat_ok (Nat.le_of_ble_eq_true rfl)) rfl rfl ha_r2 dX11_lay_21 hf (fun r2 σ1 hk => ?_)
  replace hf := hk
  clear hk
  exact r_ireturn rfl dX11_lay_24 rfl ⟨_, rfl, hf⟩
def F_X11_lay (l : Launch) (G : GG) (d : Nat) (v0 : Nat) (v1 : Int32) (v2 : Int32) (σ : Hp) (K : Int32 → Hp → Prop) : Prop :=
  C_X11_layNumbered l G d v0 v1 σ fun r4 σ3 =>
  (r4 = none →
    F_X11_lay_19 l G d v0 σ3 K) ∧
  (∀ b5, r4 = some b5 →
    ((v2 : Int32) < 0 →
      F_X11_lay_19 l G d v0 σ3 K) ∧
    (¬ (v2 : Int32) < 0 →
      ((v2 : Int32) ≤ (5 : Int32) →
        C_X2_part l G d b5 v2 σ3 fun r7 σ6 =>
        C_X11_accept l G d v0 r7 σ6 fun r9 σ8 =>
        K r9 σ8) ∧
      (¬ (v2 : Int32) ≤ (5 : Int32) →
        F_X11_lay_19 l G d v0 σ3 K)))
set_option maxRecDepth 100000 in
set_option maxHeartbeats 4000000 in
theorem b_X11_lay_0 {l : Launch} {G : GG} {d : Nat} {v0 : Nat} {v1 : Int32} {v2 : Int32} {σ : Hp} {K : Int32 → Hp → Prop} (hf : F_X11_lay l G d v0 v1 v2 σ K) : Wd l G (d + 1) "CoinsLaid" yX11_lay cX11_lay 4 (some FieldType.int) 0 [(0, aR (some v0)), (1, aI v1), (2, aI v2)] [] σ 0 0 (xM (QI K)) := by
  unfold F_X11_lay at hf
  refine r_aload_n (j := 0) rfl rfl dX11_lay_0 ?_
  refine r_iload_n (j := 1) rfl rfl dX11_lay_1 ?_
  try unfold C_X11_layNumbered at hf
  obtain ⟨⟨fs_r4, ha_r4⟩, hf⟩ := hf
  refine r_invVR (t := 11) (As := [aI v1]) (dz := d) (mz := 0) (sz := 0) rfl wd_4_134 wd_4_136 wd_p_31 cf_X11_layNumbered (Nat.le_refl _) (Nat.zero_le _) (Nat.zero_le _) (cat_ok (Nat.le_of_ble_eq_true rfl)) rfl rfl ha_r4 dX11_lay_2 hf (fun r4 σ3 hk => ?_)
  replace hf := hk
  clear hk
  refine r_astore_n (L' := [(3, aR r4), (0, aR (some v0)), (1, aI v1), (2, aI v2)]) rfl rfl (Nat.le_of_ble_eq_true rfl) dX11_lay_5 ?_
  refine r_aload_n (j := 0) rfl rfl dX11_lay_6 ?_
  refine r_ifnull (o := r4) (tgt := 19) (by decide) dX11_lay_7 (fun hc => ?_) (fun b5 hc => ?_)
  · replace hf := hf.1 hc
    subst hc
    exact r_sub [1] rfl (b_X11_lay_19 hf)
  · replace hf := hf.2 b5 hc
    subst hc
    refine r_iload_n (j := 3) rfl rfl dX11_lay_10 ?_
    refine r_iflt (x := v2) (tgt := 19) (by decide) dX11_lay_11 (fun hc => ?_) (fun hc => ?_)
    · replace hf := hf.1 hc
      exact r_sub [1] rfl (b_X11_lay_19 hf)
    · replace hf := hf.2 hc
      refine r_iload_n (j := 3) rfl rfl dX11_lay_14 ?_
      refine r_iconst (v := 5) (by decide) dX11_lay_15 ?_
      refine r_icmple (x := v2) (y := 5) (tgt := 25) (by decide) dX11_lay_16 (fun hc => ?_) (fun hc => ?_)
      · replace hf := hf.1 hc
        refine r_aload_n (j := 1) rfl rfl dX11_lay_25 ?_
        refine r_aload_n (j := 0) rfl rfl dX11_lay_26 ?_
        refine r_iload_n (j := 3) rfl rfl dX11_lay_27 ?_
        try unfold C_X2_part at hf
        obtain ⟨⟨fs_r7, ha_r7⟩, hf⟩ := hf
        refine r_invVI (t := 2) (As := [aI v2]) (dz := d) (mz := 0) (sz := 0) rfl wd_4_139 wd_4_140 wd_4_141 cf_X2_part (Nat.le_refl _) (Nat.zero_le _) (Nat.zero_le _) (cat_ok (Nat.le_of_ble_eq_true rfl)) rfl rfl ha_r7 dX11_lay_28 hf (fun r7 σ6 hk => ?_)
        replace hf := hk
        clear hk
        try unfold C_X11_accept at hf
        obtain ⟨⟨fs_r9, ha_r9⟩, hf⟩ := hf
        refine r_invVI (t := 11) (As := [aI r7]) (dz := d) (mz := 0) (sz := 0) rfl wd_4_118 wd_4_120 wd_p_30 cf_X11_accept (Nat.le_refl _) (Nat.zero_le _) (Nat.zero_le _) (cat_ok (Nat.le_of_ble_eq_true rfl)) rfl rfl ha_r9 dX11_lay_31 hf (fun r9 σ8 hk => ?_)
        replace hf := hk
        clear hk
        exact r_ireturn rfl dX11_lay_34 rfl ⟨_, rfl, hf⟩
      · replace hf := hf.2 hc
        exact r_sub [1] rfl (b_X11_lay_19 hf)
theorem m_X11_lay {l : Launch} {G : GG} {d : Nat} {v0 : Nat} {v1 : Int32} {v2 : Int32} {σ : Hp} {K : Int32 → Hp → Prop} (hr : rv σ v0 11) (hf : F_X11_lay l G d v0 v1 v2 σ K) : C_X11_lay l G (d + 1) v0 v1 v2 σ K := ⟨hr, Sp.of (by decide) (Nat.le_of_ble_eq_true rfl) (b_X11_lay_0 hf) rfl⟩
def F_X11_layOf_29 (l : Launch) (G : GG) (d : Nat) (v0 : Nat) (σ : Hp) (K : Int32 → Hp → Prop) : Prop :=
  C_X11_refuse l G d v0 1 σ fun r2 σ1 =>
  K r2 σ1
set_option maxRecDepth 100000 in
set_option maxHeartbeats 4000000 in
theorem b_X11_layOf_29 {l : Launch} {G : GG} {d : Nat} {v0 : Nat} {σ : Hp} {K : Int32 → Hp → Prop} (hf : F_X11_layOf_29 l G d v0 σ K) : Wd l G (d + 1) "CoinsLaid" yX11_layOf cX11_layOf 6 (some FieldType.int) 29 [(0, aR (some v0))] [] σ 0 0 (xM (QI K)) := by
  unfold F_X11_layOf_29 at hf
  refine r_aload_n (j := 0) rfl rfl dX11_layOf_29 ?_
  refine r_iconst (v := 1) (by decide) dX11_layOf_30 ?_
  try unfold C_X11_refuse at hf
  obtain ⟨⟨fs_r2, ha_r2⟩, hf⟩ := hf
  refine r_invVI (t := 11) (As := [aI 1]) (dz := d) (mz := 0) (sz := 0) rfl wd_1_222 wd_1_224 wd_p_1 cf_X11_refuse (Nat.le_refl _) (Nat.zero_le _) (Nat.zero_le _) (cat_ok (Nat.le_of_ble_eq_true rfl)) rfl rfl ha_r2 dX11_layOf_31 hf (fun r2 σ1 hk => ?_)
  replace hf := hk
  clear hk
  exact r_ireturn rfl dX11_layOf_34 rfl ⟨_, rfl, hf⟩
def F_X11_layOf_46 (l : Launch) (G : GG) (d : Nat) (v0 : Nat) (σ : Hp) (K : Int32 → Hp → Prop) : Prop :=
  C_X11_refuse l G d v0 2 σ fun r4 σ3 =>
  K r4 σ3
set_option maxRecDepth 100000 in
set_option maxHeartbeats 4000000 in
theorem b_X11_layOf_46 {l : Launch} {G : GG} {d : Nat} {v0 : Nat} {σ : Hp} {K : Int32 → Hp → Prop} (hf : F_X11_layOf_46 l G d v0 σ K) : Wd l G (d + 1) "CoinsLaid" yX11_layOf cX11_layOf 6 (some FieldType.int) 46 [(0, aR (some v0))] [] σ 0 0 (xM (QI K)) := by
  unfold F_X11_layOf_46 at hf
  refine r_aload_n (j := 0) rfl rfl dX11_layOf_46 ?_
  refine r_iconst (v := 2) (by decide) dX11_layOf_47 ?_
  try unfold C_X11_refuse at hf
  obtain ⟨⟨fs_r4, ha_r4⟩, hf⟩ := hf
  refine r_invVI (t := 11) (As := [aI 2]) (dz := d) (mz := 0) (sz := 0) rfl wd_1_222 wd_1_224 wd_p_1 cf_X11_refuse (Nat.le_refl _) (Nat.zero_le _) (Nat.zero_le _) (cat_ok (Nat.le_of_ble_eq_true rfl)) rfl rfl ha_r4 dX11_layOf_48 hf (fun r4 σ3 hk => ?_)
  replace hf := hk
  clear hk
  exact r_ireturn rfl dX11_layOf_51 rfl ⟨_, rfl, hf⟩
def F_X11_layOf (l : Launch) (G : GG) (d : Nat) (v0 : Nat) (v1 : Int32) (v2 : Int32) (v3 : Int32) (v4 : Int32) (v5 : Int32) (σ : Hp) (K : Int32 → Hp → Prop) : Prop :=
  fR σ v0 11 5 fun x5 =>
  (x5 = none →
    F_X11_layOf_29 l G d v0 σ K) ∧
  (∀ b6, x5 = some b6 →
    fR σ v0 11 5 fun x7 =>
    ∃ b8, x7 = some b8 ∧
    C_X8_pieceAt l G d b8 v1 σ fun r10 σ9 =>
    (r10 = none →
      F_X11_layOf_29 l G d v0 σ9 K) ∧
    (∀ b11, r10 = some b11 →
      fR σ9 v0 11 5 fun x12 =>
      ∃ b13, x12 = some b13 ∧
      C_X8_boardAt l G d b13 v2 σ9 fun r15 σ14 =>
      (∀ b16, r15 = some b16 →
        ((v5 : Int32) < 0 →
          F_X11_layOf_46 l G d v0 σ14 K) ∧
        (¬ (v5 : Int32) < 0 →
          ((v5 : Int32) ≤ (3 : Int32) →
            fR σ14 v0 11 5 fun x17 =>
            ∃ b18, x17 = some b18 ∧
            C_X8_layAtPlace l G d b18 v1 v2 v3 v4 v5 σ14 fun r20 σ19 =>
            C_X11_numberOf l G d r20 σ19 fun r22 σ21 =>
            C_X11_accept l G d v0 r22 σ21 fun r24 σ23 =>
            K r24 σ23) ∧
          (¬ (v5 : Int32) ≤ (3 : Int32) →
            F_X11_layOf_46 l G d v0 σ14 K))) ∧
      (r15 = none →
        F_X11_layOf_29 l G d v0 σ14 K)))
set_option maxRecDepth 100000 in
set_option maxHeartbeats 4000000 in
theorem b_X11_layOf_0 {l : Launch} {G : GG} {d : Nat} {v0 : Nat} {v1 : Int32} {v2 : Int32} {v3 : Int32} {v4 : Int32} {v5 : Int32} {σ : Hp} {K : Int32 → Hp → Prop} (hf : F_X11_layOf l G d v0 v1 v2 v3 v4 v5 σ K) : Wd l G (d + 1) "CoinsLaid" yX11_layOf cX11_layOf 6 (some FieldType.int) 0 [(0, aR (some v0)), (1, aI v1), (2, aI v2), (3, aI v3), (4, aI v4), (5, aI v5)] [] σ 0 0 (xM (QI K)) := by
  unfold F_X11_layOf at hf
  refine r_aload_n (j := 0) rfl rfl dX11_layOf_0 ?_
  obtain ⟨fs_x5, x5, ha_x5, hv_x5, hf⟩ := hf
  refine r_get (Cn := RX11) (Tt := TX11) (N := 12) (n := 5) rfl uw_X11 (Nat.le_of_ble_eq_true rfl) wd_1_178 ha_x5 hv_x5 dX11_layOf_1 ?_
  refine r_ifnull (o := x5) (tgt := 29) (by decide) dX11_layOf_4 (fun hc => ?_) (fun b6 hc => ?_)
  · replace hf := hf.1 hc
    subst hc
    exact r_sub [0] rfl (b_X11_layOf_29 hf)
  · replace hf := hf.2 b6 hc
    subst hc
    refine r_aload_n (j := 0) rfl rfl dX11_layOf_7 ?_
    obtain ⟨fs_x7, x7, ha_x7, hv_x7, hf⟩ := hf
    refine r_get (Cn := RX11) (Tt := TX11) (N := 12) (n := 5) rfl uw_X11 (Nat.le_of_ble_eq_true rfl) wd_1_178 ha_x7 hv_x7 dX11_layOf_8 ?_
    refine r_iload_n (j := 1) rfl rfl dX11_layOf_11 ?_
    obtain ⟨b8, hb_b8, hf⟩ := hf
    subst hb_b8
    try unfold C_X8_pieceAt at hf
    obtain ⟨⟨fs_r10, ha_r10⟩, hf⟩ := hf
    refine r_invVR (t := 8) (As := [aI v1]) (dz := d) (mz := 0) (sz := 0) rfl wd_4_147 wd_4_148 wd_4_149 cf_X8_pieceAt (Nat.le_refl _) (Nat.zero_le _) (Nat.zero_le _) (cat_ok (Nat.le_of_ble_eq_true rfl)) rfl rfl ha_r10 dX11_layOf_12 hf (fun r10 σ9 hk => ?_)
    replace hf := hk
    clear hk
    refine r_ifnull (o := r10) (tgt := 29) (by decide) dX11_layOf_15 (fun hc => ?_) (fun b11 hc => ?_)
    · replace hf := hf.1 hc
      subst hc
      exact r_sub [0] rfl (b_X11_layOf_29 hf)
    · replace hf := hf.2 b11 hc
      subst hc
      refine r_aload_n (j := 0) rfl rfl dX11_layOf_18 ?_
      obtain ⟨fs_x12, x12, ha_x12, hv_x12, hf⟩ := hf
      refine r_get (Cn := RX11) (Tt := TX11) (N := 12) (n := 5) rfl uw_X11 (Nat.le_of_ble_eq_true rfl) wd_1_178 ha_x12 hv_x12 dX11_layOf_19 ?_
      refine r_iload_n (j := 2) rfl rfl dX11_layOf_22 ?_
      obtain ⟨b13, hb_b13, hf⟩ := hf
      subst hb_b13
      try unfold C_X8_boardAt at hf
      obtain ⟨⟨fs_r15, ha_r15⟩, hf⟩ := hf
      refine r_invVR (t := 8) (As := [aI v2]) (dz := d) (mz := 0) (sz := 0) rfl wd_4_151 wd_4_152 wd_4_153 cf_X8_boardAt (Nat.le_refl _) (Nat.zero_le _) (Nat.zero_le _) (cat_ok (Nat.le_of_ble_eq_true rfl)) rfl rfl ha_r15 dX11_layOf_23 hf (fun r15 σ14 hk => ?_)
      replace hf := hk
      clear hk
      refine r_ifnonnull (o := r15) (tgt := 35) (by decide) dX11_layOf_26 (fun b16 hc => ?_) (fun hc => ?_)
      · replace hf := hf.1 b16 hc
        subst hc
        refine r_iload (j := 5) rfl dX11_layOf_35 ?_
        refine r_iflt (x := v5) (tgt := 46) (by decide) dX11_layOf_37 (fun hc => ?_) (fun hc => ?_)
        · replace hf := hf.1 hc
          exact r_sub [0] rfl (b_X11_layOf_46 hf)
        · replace hf := hf.2 hc
          refine r_iload (j := 5) rfl dX11_layOf_40 ?_
          refine r_iconst (v := 3) (by decide) dX11_layOf_42 ?_
          refine r_icmple (x := v5) (y := 3) (tgt := 52) (by decide) dX11_layOf_43 (fun hc => ?_) (fun hc => ?_)
          · replace hf := hf.1 hc
            refine r_aload_n (j := 0) rfl rfl dX11_layOf_52 ?_
            refine r_aload_n (j := 0) rfl rfl dX11_layOf_53 ?_
            obtain ⟨fs_x17, x17, ha_x17, hv_x17, hf⟩ := hf
            refine r_get (Cn := RX11) (Tt := TX11) (N := 12) (n := 5) rfl uw_X11 (Nat.le_of_ble_eq_true rfl) wd_1_178 ha_x17 hv_x17 dX11_layOf_54 ?_
            refine r_iload_n (j := 1) rfl rfl dX11_layOf_57 ?_
            refine r_iload_n (j := 2) rfl rfl dX11_layOf_58 ?_
            refine r_iload_n (j := 3) rfl rfl dX11_layOf_59 ?_
            refine r_iload (j := 4) rfl dX11_layOf_60 ?_
            refine r_iload (j := 5) rfl dX11_layOf_62 ?_
            obtain ⟨b18, hb_b18, hf⟩ := hf
            subst hb_b18
            try unfold C_X8_layAtPlace at hf
            obtain ⟨⟨fs_r20, ha_r20⟩, hf⟩ := hf
            refine r_invVR (t := 8) (As := [aI v1, aI v2, aI v3, aI v4, aI v5]) (dz := d) (mz := 0) (sz := 0) rfl wd_4_155 wd_4_156 wd_4_157 cf_X8_layAtPlace (Nat.le_refl _) (Nat.zero_le _) (Nat.zero_le _) (cat_ok (Nat.le_of_ble_eq_true rfl)) rfl rfl ha_r20 dX11_layOf_64 hf (fun r20 σ19 hk => ?_)
            replace hf := hk
            clear hk
            try unfold C_X11_numberOf at hf
            refine r_invSI (As := [aR r20]) (dz := d) (mz := 0) (sz := 0) rfl wd_4_163 wd_4_164 cf_X11_numberOf (Nat.le_refl _) (Nat.zero_le _) (Nat.zero_le _) (cat_ok (Nat.le_of_ble_eq_true rfl)) dX11_layOf_67 hf (fun r22 σ21 hk => ?_)
            replace hf := hk
            clear hk
            try unfold C_X11_accept at hf
            obtain ⟨⟨fs_r24, ha_r24⟩, hf⟩ := hf
            refine r_invVI (t := 11) (As := [aI r22]) (dz := d) (mz := 0) (sz := 0) rfl wd_4_118 wd_4_120 wd_p_30 cf_X11_accept (Nat.le_refl _) (Nat.zero_le _) (Nat.zero_le _) (cat_ok (Nat.le_of_ble_eq_true rfl)) rfl rfl ha_r24 dX11_layOf_70 hf (fun r24 σ23 hk => ?_)
            replace hf := hk
            clear hk
            exact r_ireturn rfl dX11_layOf_73 rfl ⟨_, rfl, hf⟩
          · replace hf := hf.2 hc
            exact r_sub [0] rfl (b_X11_layOf_46 hf)
      · replace hf := hf.2 hc
        subst hc
        exact r_sub [0] rfl (b_X11_layOf_29 hf)
theorem m_X11_layOf {l : Launch} {G : GG} {d : Nat} {v0 : Nat} {v1 : Int32} {v2 : Int32} {v3 : Int32} {v4 : Int32} {v5 : Int32} {σ : Hp} {K : Int32 → Hp → Prop} (hr : rv σ v0 11) (hf : F_X11_layOf l G d v0 v1 v2 v3 v4 v5 σ K) : C_X11_layOf l G (d + 1) v0 v1 v2 v3 v4 v5 σ K := ⟨hr, Sp.of (by decide) (Nat.le_of_ble_eq_true rfl) (b_X11_layOf_0 hf) rfl⟩
def F_X11_may_43 (l : Launch) (G : GG) (d : Nat) (s0 : Nat) (s1 : Bool) (σ : Hp) (K : Int32 → Hp → Prop) : Prop :=
  C_X11_accept l G d s0 (bi s1) σ fun r2 σ1 =>
  K r2 σ1
set_option maxRecDepth 100000 in
set_option maxHeartbeats 4000000 in
theorem b_X11_may_43 {l : Launch} {G : GG} {d : Nat} {s0 : Nat} {s1 : Bool} {σ : Hp} {K : Int32 → Hp → Prop} (hf : F_X11_may_43 l G d s0 s1 σ K) : Wd l G (d + 1) "CoinsLaid" yX11_may cX11_may 3 (some FieldType.int) 43 [] [aI (bi s1), aR (some s0)] σ 0 0 (xM (QI K)) := by
  unfold F_X11_may_43 at hf
  try unfold C_X11_accept at hf
  obtain ⟨⟨fs_r2, ha_r2⟩, hf⟩ := hf
  refine r_invVI (t := 11) (As := [aI (bi s1)]) (dz := d) (mz := 0) (sz := 0) rfl wd_4_118 wd_4_120 wd_p_30 cf_X11_accept (Nat.le_refl _) (Nat.zero_le _) (Nat.zero_le _) (cat_ok (Nat.le_of_ble_eq_true rfl)) rfl rfl ha_r2 dX11_may_43 hf (fun r2 σ1 hk => ?_)
  replace hf := hk
  clear hk
  exact r_ireturn rfl dX11_may_46 rfl ⟨_, rfl, hf⟩
def F_X11_may (l : Launch) (G : GG) (d : Nat) (v0 : Nat) (v1 : Int32) (σ : Hp) (K : Int32 → Hp → Prop) : Prop :=
  C_X11_layNumbered l G d v0 v1 σ fun r4 σ3 =>
  (∀ b5, r4 = some b5 →
    fN σ3 v0 11 7 fun x6 =>
    fI σ3 x6 1 2 fun x7 =>
    fN σ3 v0 11 7 fun x8 =>
    C_X1_next l G d x8 σ3 fun r10 σ9 =>
    C_X2_mayBe l G d b5 x7 r10 σ9 fun r12 σ11 =>
    (r12 = false →
      F_X11_may_43 l G d v0 false σ11 K) ∧
    (r12 = true →
      F_X11_may_43 l G d v0 true σ11 K)) ∧
  (r4 = none →
    C_X11_refuse l G d v0 1 σ3 fun r14 σ13 =>
    K r14 σ13)
set_option maxRecDepth 100000 in
set_option maxHeartbeats 4000000 in
theorem b_X11_may_0 {l : Launch} {G : GG} {d : Nat} {v0 : Nat} {v1 : Int32} {σ : Hp} {K : Int32 → Hp → Prop} (hf : F_X11_may l G d v0 v1 σ K) : Wd l G (d + 1) "CoinsLaid" yX11_may cX11_may 3 (some FieldType.int) 0 [(0, aR (some v0)), (1, aI v1)] [] σ 0 0 (xM (QI K)) := by
  unfold F_X11_may at hf
  refine r_aload_n (j := 0) rfl rfl dX11_may_0 ?_
  refine r_iload_n (j := 1) rfl rfl dX11_may_1 ?_
  try unfold C_X11_layNumbered at hf
  obtain ⟨⟨fs_r4, ha_r4⟩, hf⟩ := hf
  refine r_invVR (t := 11) (As := [aI v1]) (dz := d) (mz := 0) (sz := 0) rfl wd_4_134 wd_4_136 wd_p_31 cf_X11_layNumbered (Nat.le_refl _) (Nat.zero_le _) (Nat.zero_le _) (cat_ok (Nat.le_of_ble_eq_true rfl)) rfl rfl ha_r4 dX11_may_2 hf (fun r4 σ3 hk => ?_)
  replace hf := hk
  clear hk
  refine r_astore_n (L' := [(2, aR r4), (0, aR (some v0)), (1, aI v1)]) rfl rfl (Nat.le_of_ble_eq_true rfl) dX11_may_5 ?_
  refine r_aload_n (j := 0) rfl rfl dX11_may_6 ?_
  refine r_ifnonnull (o := r4) (tgt := 16) (by decide) dX11_may_7 (fun b5 hc => ?_) (fun hc => ?_)
  · replace hf := hf.1 b5 hc
    subst hc
    refine r_aload_n (j := 1) rfl rfl dX11_may_16 ?_
    refine r_aload_n (j := 0) rfl rfl dX11_may_17 ?_
    refine r_aload_n (j := 1) rfl rfl dX11_may_18 ?_
    obtain ⟨fs_x6, x6, ha_x6, hv_x6, hf⟩ := hf
    refine r_get (Cn := RX11) (Tt := TX11) (N := 12) (n := 7) rfl uw_X11 (Nat.le_of_ble_eq_true rfl) wd_1_180 ha_x6 hv_x6 dX11_may_19 ?_
    obtain ⟨fs_x7, x7, ha_x7, hv_x7, hf⟩ := hf
    refine r_get (Cn := RX1) (Tt := TX1) (N := 4) (n := 2) rfl uw_X1 (Nat.le_of_ble_eq_true rfl) wd_1_97 ha_x7 hv_x7 dX11_may_22 ?_
    refine r_aload_n (j := 1) rfl rfl dX11_may_25 ?_
    obtain ⟨fs_x8, x8, ha_x8, hv_x8, hf⟩ := hf
    refine r_get (Cn := RX11) (Tt := TX11) (N := 12) (n := 7) rfl uw_X11 (Nat.le_of_ble_eq_true rfl) wd_1_180 ha_x8 hv_x8 dX11_may_26 ?_
    try unfold C_X1_next at hf
    obtain ⟨⟨fs_r10, ha_r10⟩, hf⟩ := hf
    refine r_invVI (t := 1) (As := []) (dz := d) (mz := 0) (sz := 0) rfl wd_4_170 wd_4_75 wd_4_76 cf_X1_next (Nat.le_refl _) (Nat.zero_le _) (Nat.zero_le _) (cat_ok (Nat.le_of_ble_eq_true rfl)) rfl rfl ha_r10 dX11_may_29 hf (fun r10 σ9 hk => ?_)
    replace hf := hk
    clear hk
    try unfold C_X2_mayBe at hf
    obtain ⟨⟨fs_r12, ha_r12⟩, hf⟩ := hf
    refine r_invVZ (t := 2) (As := [aI x7, aI r10]) (dz := d) (mz := 0) (sz := 0) rfl wd_4_171 wd_4_79 wd_4_80 cf_X2_mayBe (Nat.le_refl _) (Nat.zero_le _) (Nat.zero_le _) (cat_ok (Nat.le_of_ble_eq_true rfl)) rfl rfl ha_r12 dX11_may_32 hf (fun r12 σ11 hk => ?_)
    replace hf := hk
    clear hk
    refine r_ifeqZ (b := r12) (tgt := 42) (by decide) dX11_may_35 (fun hc => ?_) (fun hc => ?_)
    · replace hf := hf.1 hc
      refine r_iconst (v := 0) (by decide) dX11_may_42 ?_
      exact r_sub [] rfl (b_X11_may_43 hf)
    · replace hf := hf.2 hc
      refine r_iconst (v := 1) (by decide) dX11_may_38 ?_
      refine r_goto (tgt := 43) (by decide) dX11_may_39 ?_
      exact r_sub [] rfl (b_X11_may_43 hf)
  · replace hf := hf.2 hc
    subst hc
    refine r_aload_n (j := 1) rfl rfl dX11_may_10 ?_
    refine r_iconst (v := 1) (by decide) dX11_may_11 ?_
    try unfold C_X11_refuse at hf
    obtain ⟨⟨fs_r14, ha_r14⟩, hf⟩ := hf
    refine r_invVI (t := 11) (As := [aI 1]) (dz := d) (mz := 0) (sz := 0) rfl wd_1_222 wd_1_224 wd_p_1 cf_X11_refuse (Nat.le_refl _) (Nat.zero_le _) (Nat.zero_le _) (cat_ok (Nat.le_of_ble_eq_true rfl)) rfl rfl ha_r14 dX11_may_12 hf (fun r14 σ13 hk => ?_)
    replace hf := hk
    clear hk
    exact r_ireturn rfl dX11_may_15 rfl ⟨_, rfl, hf⟩
theorem m_X11_may {l : Launch} {G : GG} {d : Nat} {v0 : Nat} {v1 : Int32} {σ : Hp} {K : Int32 → Hp → Prop} (hr : rv σ v0 11) (hf : F_X11_may l G d v0 v1 σ K) : C_X11_may l G (d + 1) v0 v1 σ K := ⟨hr, Sp.of (by decide) (Nat.le_of_ble_eq_true rfl) (b_X11_may_0 hf) rfl⟩
def F_X11_lays (l : Launch) (G : GG) (d : Nat) (v0 : Nat) (σ : Hp) (K : Int32 → Hp → Prop) : Prop :=
  fR σ v0 11 5 fun x1 =>
  (∀ b2, x1 = some b2 →
    fR σ v0 11 5 fun x3 =>
    fN σ v0 11 7 fun x4 =>
    fI σ x4 1 2 fun x5 =>
    fN σ v0 11 7 fun x6 =>
    C_X1_next l G d x6 σ fun r8 σ7 =>
    ∃ b9, x3 = some b9 ∧
    C_X8_countThatMay l G d b9 x5 r8 σ7 fun r11 σ10 =>
    C_X11_accept l G d v0 r11 σ10 fun r13 σ12 =>
    K r13 σ12) ∧
  (x1 = none →
    C_X11_refuse l G d v0 1 σ fun r15 σ14 =>
    K r15 σ14)
set_option maxRecDepth 100000 in
set_option maxHeartbeats 4000000 in
theorem b_X11_lays_0 {l : Launch} {G : GG} {d : Nat} {v0 : Nat} {σ : Hp} {K : Int32 → Hp → Prop} (hf : F_X11_lays l G d v0 σ K) : Wd l G (d + 1) "CoinsLaid" yX11_lays cX11_lays 1 (some FieldType.int) 0 [(0, aR (some v0))] [] σ 0 0 (xM (QI K)) := by
  unfold F_X11_lays at hf
  refine r_aload_n (j := 0) rfl rfl dX11_lays_0 ?_
  obtain ⟨fs_x1, x1, ha_x1, hv_x1, hf⟩ := hf
  refine r_get (Cn := RX11) (Tt := TX11) (N := 12) (n := 5) rfl uw_X11 (Nat.le_of_ble_eq_true rfl) wd_1_178 ha_x1 hv_x1 dX11_lays_1 ?_
  refine r_ifnonnull (o := x1) (tgt := 13) (by decide) dX11_lays_4 (fun b2 hc => ?_) (fun hc => ?_)
  · replace hf := hf.1 b2 hc
    subst hc
    refine r_aload_n (j := 0) rfl rfl dX11_lays_13 ?_
    refine r_aload_n (j := 0) rfl rfl dX11_lays_14 ?_
    obtain ⟨fs_x3, x3, ha_x3, hv_x3, hf⟩ := hf
    refine r_get (Cn := RX11) (Tt := TX11) (N := 12) (n := 5) rfl uw_X11 (Nat.le_of_ble_eq_true rfl) wd_1_178 ha_x3 hv_x3 dX11_lays_15 ?_
    refine r_aload_n (j := 0) rfl rfl dX11_lays_18 ?_
    obtain ⟨fs_x4, x4, ha_x4, hv_x4, hf⟩ := hf
    refine r_get (Cn := RX11) (Tt := TX11) (N := 12) (n := 7) rfl uw_X11 (Nat.le_of_ble_eq_true rfl) wd_1_180 ha_x4 hv_x4 dX11_lays_19 ?_
    obtain ⟨fs_x5, x5, ha_x5, hv_x5, hf⟩ := hf
    refine r_get (Cn := RX1) (Tt := TX1) (N := 4) (n := 2) rfl uw_X1 (Nat.le_of_ble_eq_true rfl) wd_1_97 ha_x5 hv_x5 dX11_lays_22 ?_
    refine r_aload_n (j := 0) rfl rfl dX11_lays_25 ?_
    obtain ⟨fs_x6, x6, ha_x6, hv_x6, hf⟩ := hf
    refine r_get (Cn := RX11) (Tt := TX11) (N := 12) (n := 7) rfl uw_X11 (Nat.le_of_ble_eq_true rfl) wd_1_180 ha_x6 hv_x6 dX11_lays_26 ?_
    try unfold C_X1_next at hf
    obtain ⟨⟨fs_r8, ha_r8⟩, hf⟩ := hf
    refine r_invVI (t := 1) (As := []) (dz := d) (mz := 0) (sz := 0) rfl wd_4_170 wd_4_75 wd_4_76 cf_X1_next (Nat.le_refl _) (Nat.zero_le _) (Nat.zero_le _) (cat_ok (Nat.le_of_ble_eq_true rfl)) rfl rfl ha_r8 dX11_lays_29 hf (fun r8 σ7 hk => ?_)
    replace hf := hk
    clear hk
    obtain ⟨b9, hb_b9, hf⟩ := hf
    subst hb_b9
    try unfold C_X8_countThatMay at hf
    obtain ⟨⟨fs_r11, ha_r11⟩, hf⟩ := hf
    refine r_invVI (t := 8) (As := [aI x5, aI r8]) (dz := d) (mz := 0) (sz := 0) rfl wd_4_176 wd_4_177 wd_4_178 cf_X8_countThatMay (Nat.le_refl _) (Nat.zero_le _) (Nat.zero_le _) (cat_ok (Nat.le_of_ble_eq_true rfl)) rfl rfl ha_r11 dX11_lays_32 hf (fun r11 σ10 hk => ?_)
    replace hf := hk
    clear hk
    try unfold C_X11_accept at hf
    obtain ⟨⟨fs_r13, ha_r13⟩, hf⟩ := hf
    refine r_invVI (t := 11) (As := [aI r11]) (dz := d) (mz := 0) (sz := 0) rfl wd_4_118 wd_4_120 wd_p_30 cf_X11_accept (Nat.le_refl _) (Nat.zero_le _) (Nat.zero_le _) (cat_ok (Nat.le_of_ble_eq_true rfl)) rfl rfl ha_r13 dX11_lays_35 hf (fun r13 σ12 hk => ?_)
    replace hf := hk
    clear hk
    exact r_ireturn rfl dX11_lays_38 rfl ⟨_, rfl, hf⟩
  · replace hf := hf.2 hc
    subst hc
    refine r_aload_n (j := 0) rfl rfl dX11_lays_7 ?_
    refine r_iconst (v := 1) (by decide) dX11_lays_8 ?_
    try unfold C_X11_refuse at hf
    obtain ⟨⟨fs_r15, ha_r15⟩, hf⟩ := hf
    refine r_invVI (t := 11) (As := [aI 1]) (dz := d) (mz := 0) (sz := 0) rfl wd_1_222 wd_1_224 wd_p_1 cf_X11_refuse (Nat.le_refl _) (Nat.zero_le _) (Nat.zero_le _) (cat_ok (Nat.le_of_ble_eq_true rfl)) rfl rfl ha_r15 dX11_lays_9 hf (fun r15 σ14 hk => ?_)
    replace hf := hk
    clear hk
    exact r_ireturn rfl dX11_lays_12 rfl ⟨_, rfl, hf⟩
theorem m_X11_lays {l : Launch} {G : GG} {d : Nat} {v0 : Nat} {σ : Hp} {K : Int32 → Hp → Prop} (hr : rv σ v0 11) (hf : F_X11_lays l G d v0 σ K) : C_X11_lays l G (d + 1) v0 σ K := ⟨hr, Sp.of (by decide) (Nat.le_of_ble_eq_true rfl) (b_X11_lays_0 hf) rfl⟩
def F_X11_layAt_33 (l : Launch) (G : GG) (d : Nat) (v0 : Nat) (s0 : Option Nat) (σ : Hp) (K : Int32 → Hp → Prop) : Prop :=
  (∀ b1, s0 = some b1 →
    fI σ b1 2 0 fun x2 =>
    C_X11_accept l G d v0 x2 σ fun r4 σ3 =>
    K r4 σ3) ∧
  (s0 = none →
    C_X11_refuse l G d v0 1 σ fun r6 σ5 =>
    K r6 σ5)
set_option maxRecDepth 100000 in
set_option maxHeartbeats 4000000 in
theorem b_X11_layAt_33 {l : Launch} {G : GG} {d : Nat} {v0 : Nat} {s0 : Option Nat} {σ : Hp} {K : Int32 → Hp → Prop} (hf : F_X11_layAt_33 l G d v0 s0 σ K) : Wd l G (d + 1) "CoinsLaid" yX11_layAt cX11_layAt 3 (some FieldType.int) 33 [(0, aR (some v0))] [aR s0] σ 0 0 (xM (QI K)) := by
  unfold F_X11_layAt_33 at hf
  refine r_astore_n (L' := [(2, aR s0), (0, aR (some v0))]) rfl rfl (Nat.le_of_ble_eq_true rfl) dX11_layAt_33 ?_
  refine r_aload_n (j := 0) rfl rfl dX11_layAt_34 ?_
  refine r_ifnonnull (o := s0) (tgt := 44) (by decide) dX11_layAt_35 (fun b1 hc => ?_) (fun hc => ?_)
  · replace hf := hf.1 b1 hc
    subst hc
    refine r_aload_n (j := 1) rfl rfl dX11_layAt_44 ?_
    refine r_aload_n (j := 0) rfl rfl dX11_layAt_45 ?_
    obtain ⟨fs_x2, x2, ha_x2, hv_x2, hf⟩ := hf
    refine r_get (Cn := RX2) (Tt := TX2) (N := 9) (n := 0) rfl uw_X2 (Nat.le_of_ble_eq_true rfl) wd_4_20 ha_x2 hv_x2 dX11_layAt_46 ?_
    try unfold C_X11_accept at hf
    obtain ⟨⟨fs_r4, ha_r4⟩, hf⟩ := hf
    refine r_invVI (t := 11) (As := [aI x2]) (dz := d) (mz := 0) (sz := 0) rfl wd_4_118 wd_4_120 wd_p_30 cf_X11_accept (Nat.le_refl _) (Nat.zero_le _) (Nat.zero_le _) (cat_ok (Nat.le_of_ble_eq_true rfl)) rfl rfl ha_r4 dX11_layAt_49 hf (fun r4 σ3 hk => ?_)
    replace hf := hk
    clear hk
    exact r_ireturn rfl dX11_layAt_52 rfl ⟨_, rfl, hf⟩
  · replace hf := hf.2 hc
    subst hc
    refine r_aload_n (j := 1) rfl rfl dX11_layAt_38 ?_
    refine r_iconst (v := 1) (by decide) dX11_layAt_39 ?_
    try unfold C_X11_refuse at hf
    obtain ⟨⟨fs_r6, ha_r6⟩, hf⟩ := hf
    refine r_invVI (t := 11) (As := [aI 1]) (dz := d) (mz := 0) (sz := 0) rfl wd_1_222 wd_1_224 wd_p_1 cf_X11_refuse (Nat.le_refl _) (Nat.zero_le _) (Nat.zero_le _) (cat_ok (Nat.le_of_ble_eq_true rfl)) rfl rfl ha_r6 dX11_layAt_40 hf (fun r6 σ5 hk => ?_)
    replace hf := hk
    clear hk
    exact r_ireturn rfl dX11_layAt_43 rfl ⟨_, rfl, hf⟩
def F_X11_layAt (l : Launch) (G : GG) (d : Nat) (v0 : Nat) (v1 : Int32) (σ : Hp) (K : Int32 → Hp → Prop) : Prop :=
  fR σ v0 11 5 fun x7 =>
  (∀ b8, x7 = some b8 →
    fR σ v0 11 5 fun x9 =>
    fN σ v0 11 7 fun x10 =>
    fI σ x10 1 2 fun x11 =>
    fN σ v0 11 7 fun x12 =>
    C_X1_next l G d x12 σ fun r14 σ13 =>
    ∃ b15, x9 = some b15 ∧
    C_X8_thatMay l G d b15 x11 r14 v1 σ13 fun r17 σ16 =>
    F_X11_layAt_33 l G d v0 r17 σ16 K) ∧
  (x7 = none →
    F_X11_layAt_33 l G d v0 none σ K)
set_option maxRecDepth 100000 in
set_option maxHeartbeats 4000000 in
theorem b_X11_layAt_0 {l : Launch} {G : GG} {d : Nat} {v0 : Nat} {v1 : Int32} {σ : Hp} {K : Int32 → Hp → Prop} (hf : F_X11_layAt l G d v0 v1 σ K) : Wd l G (d + 1) "CoinsLaid" yX11_layAt cX11_layAt 3 (some FieldType.int) 0 [(0, aR (some v0)), (1, aI v1)] [] σ 0 0 (xM (QI K)) := by
  unfold F_X11_layAt at hf
  refine r_aload_n (j := 0) rfl rfl dX11_layAt_0 ?_
  obtain ⟨fs_x7, x7, ha_x7, hv_x7, hf⟩ := hf
  refine r_get (Cn := RX11) (Tt := TX11) (N := 12) (n := 5) rfl uw_X11 (Nat.le_of_ble_eq_true rfl) wd_1_178 ha_x7 hv_x7 dX11_layAt_1 ?_
  refine r_ifnonnull (o := x7) (tgt := 11) (by decide) dX11_layAt_4 (fun b8 hc => ?_) (fun hc => ?_)
  · replace hf := hf.1 b8 hc
    subst hc
    refine r_aload_n (j := 0) rfl rfl dX11_layAt_11 ?_
    obtain ⟨fs_x9, x9, ha_x9, hv_x9, hf⟩ := hf
    refine r_get (Cn := RX11) (Tt := TX11) (N := 12) (n := 5) rfl uw_X11 (Nat.le_of_ble_eq_true rfl) wd_1_178 ha_x9 hv_x9 dX11_layAt_12 ?_
    refine r_aload_n (j := 0) rfl rfl dX11_layAt_15 ?_
    obtain ⟨fs_x10, x10, ha_x10, hv_x10, hf⟩ := hf
    refine r_get (Cn := RX11) (Tt := TX11) (N := 12) (n := 7) rfl uw_X11 (Nat.le_of_ble_eq_true rfl) wd_1_180 ha_x10 hv_x10 dX11_layAt_16 ?_
    obtain ⟨fs_x11, x11, ha_x11, hv_x11, hf⟩ := hf
    refine r_get (Cn := RX1) (Tt := TX1) (N := 4) (n := 2) rfl uw_X1 (Nat.le_of_ble_eq_true rfl) wd_1_97 ha_x11 hv_x11 dX11_layAt_19 ?_
    refine r_aload_n (j := 0) rfl rfl dX11_layAt_22 ?_
    obtain ⟨fs_x12, x12, ha_x12, hv_x12, hf⟩ := hf
    refine r_get (Cn := RX11) (Tt := TX11) (N := 12) (n := 7) rfl uw_X11 (Nat.le_of_ble_eq_true rfl) wd_1_180 ha_x12 hv_x12 dX11_layAt_23 ?_
    try unfold C_X1_next at hf
    obtain ⟨⟨fs_r14, ha_r14⟩, hf⟩ := hf
    refine r_invVI (t := 1) (As := []) (dz := d) (mz := 0) (sz := 0) rfl wd_4_170 wd_4_75 wd_4_76 cf_X1_next (Nat.le_refl _) (Nat.zero_le _) (Nat.zero_le _) (cat_ok (Nat.le_of_ble_eq_true rfl)) rfl rfl ha_r14 dX11_layAt_26 hf (fun r14 σ13 hk => ?_)
    replace hf := hk
    clear hk
    refine r_iload_n (j := 1) rfl rfl dX11_layAt_29 ?_
    obtain ⟨b15, hb_b15, hf⟩ := hf
    subst hb_b15
    try unfold C_X8_thatMay at hf
    obtain ⟨⟨fs_r17, ha_r17⟩, hf⟩ := hf
    refine r_invVR (t := 8) (As := [aI x11, aI r14, aI v1]) (dz := d) (mz := 0) (sz := 0) rfl wd_4_185 wd_4_186 wd_4_187 cf_X8_thatMay (Nat.le_refl _) (Nat.zero_le _) (Nat.zero_le _) (cat_ok (Nat.le_of_ble_eq_true rfl)) rfl rfl ha_r17 dX11_layAt_30 hf (fun r17 σ16 hk => ?_)
    replace hf := hk
    clear hk
    exact r_sub [0] rfl (b_X11_layAt_33 hf)
  · replace hf := hf.2 hc
    subst hc
    refine r_null dX11_layAt_7 ?_
    refine r_goto (tgt := 33) (by decide) dX11_layAt_8 ?_
    exact r_sub [0] rfl (b_X11_layAt_33 hf)
theorem m_X11_layAt {l : Launch} {G : GG} {d : Nat} {v0 : Nat} {v1 : Int32} {σ : Hp} {K : Int32 → Hp → Prop} (hr : rv σ v0 11) (hf : F_X11_layAt l G d v0 v1 σ K) : C_X11_layAt l G (d + 1) v0 v1 σ K := ⟨hr, Sp.of (by decide) (Nat.le_of_ble_eq_true rfl) (b_X11_layAt_0 hf) rfl⟩
def F_X11_across (l : Launch) (G : GG) (d : Nat) (v0 : Nat) (v1 : Int32) (σ : Hp) (K : Int32 → Hp → Prop) : Prop :=
  C_X11_layNumbered l G d v0 v1 σ fun r2 σ1 =>
  (∀ b3, r2 = some b3 →
    fR σ1 b3 2 8 fun x4 =>
    C_X11_numberOf l G d x4 σ1 fun r6 σ5 =>
    C_X11_accept l G d v0 r6 σ5 fun r8 σ7 =>
    K r8 σ7) ∧
  (r2 = none →
    C_X11_refuse l G d v0 1 σ1 fun r10 σ9 =>
    K r10 σ9)
set_option maxRecDepth 100000 in
set_option maxHeartbeats 4000000 in
theorem b_X11_across_0 {l : Launch} {G : GG} {d : Nat} {v0 : Nat} {v1 : Int32} {σ : Hp} {K : Int32 → Hp → Prop} (hf : F_X11_across l G d v0 v1 σ K) : Wd l G (d + 1) "CoinsLaid" yX11_across cX11_across 3 (some FieldType.int) 0 [(0, aR (some v0)), (1, aI v1)] [] σ 0 0 (xM (QI K)) := by
  unfold F_X11_across at hf
  refine r_aload_n (j := 0) rfl rfl dX11_across_0 ?_
  refine r_iload_n (j := 1) rfl rfl dX11_across_1 ?_
  try unfold C_X11_layNumbered at hf
  obtain ⟨⟨fs_r2, ha_r2⟩, hf⟩ := hf
  refine r_invVR (t := 11) (As := [aI v1]) (dz := d) (mz := 0) (sz := 0) rfl wd_4_134 wd_4_136 wd_p_31 cf_X11_layNumbered (Nat.le_refl _) (Nat.zero_le _) (Nat.zero_le _) (cat_ok (Nat.le_of_ble_eq_true rfl)) rfl rfl ha_r2 dX11_across_2 hf (fun r2 σ1 hk => ?_)
  replace hf := hk
  clear hk
  refine r_astore_n (L' := [(2, aR r2), (0, aR (some v0)), (1, aI v1)]) rfl rfl (Nat.le_of_ble_eq_true rfl) dX11_across_5 ?_
  refine r_aload_n (j := 0) rfl rfl dX11_across_6 ?_
  refine r_ifnonnull (o := r2) (tgt := 16) (by decide) dX11_across_7 (fun b3 hc => ?_) (fun hc => ?_)
  · replace hf := hf.1 b3 hc
    subst hc
    refine r_aload_n (j := 1) rfl rfl dX11_across_16 ?_
    refine r_aload_n (j := 0) rfl rfl dX11_across_17 ?_
    obtain ⟨fs_x4, x4, ha_x4, hv_x4, hf⟩ := hf
    refine r_get (Cn := RX2) (Tt := TX2) (N := 9) (n := 8) rfl uw_X2 (Nat.le_of_ble_eq_true rfl) wd_4_37 ha_x4 hv_x4 dX11_across_18 ?_
    try unfold C_X11_numberOf at hf
    refine r_invSI (As := [aR x4]) (dz := d) (mz := 0) (sz := 0) rfl wd_4_163 wd_4_164 cf_X11_numberOf (Nat.le_refl _) (Nat.zero_le _) (Nat.zero_le _) (cat_ok (Nat.le_of_ble_eq_true rfl)) dX11_across_21 hf (fun r6 σ5 hk => ?_)
    replace hf := hk
    clear hk
    try unfold C_X11_accept at hf
    obtain ⟨⟨fs_r8, ha_r8⟩, hf⟩ := hf
    refine r_invVI (t := 11) (As := [aI r6]) (dz := d) (mz := 0) (sz := 0) rfl wd_4_118 wd_4_120 wd_p_30 cf_X11_accept (Nat.le_refl _) (Nat.zero_le _) (Nat.zero_le _) (cat_ok (Nat.le_of_ble_eq_true rfl)) rfl rfl ha_r8 dX11_across_24 hf (fun r8 σ7 hk => ?_)
    replace hf := hk
    clear hk
    exact r_ireturn rfl dX11_across_27 rfl ⟨_, rfl, hf⟩
  · replace hf := hf.2 hc
    subst hc
    refine r_aload_n (j := 1) rfl rfl dX11_across_10 ?_
    refine r_iconst (v := 1) (by decide) dX11_across_11 ?_
    try unfold C_X11_refuse at hf
    obtain ⟨⟨fs_r10, ha_r10⟩, hf⟩ := hf
    refine r_invVI (t := 11) (As := [aI 1]) (dz := d) (mz := 0) (sz := 0) rfl wd_1_222 wd_1_224 wd_p_1 cf_X11_refuse (Nat.le_refl _) (Nat.zero_le _) (Nat.zero_le _) (cat_ok (Nat.le_of_ble_eq_true rfl)) rfl rfl ha_r10 dX11_across_12 hf (fun r10 σ9 hk => ?_)
    replace hf := hk
    clear hk
    exact r_ireturn rfl dX11_across_15 rfl ⟨_, rfl, hf⟩
theorem m_X11_across {l : Launch} {G : GG} {d : Nat} {v0 : Nat} {v1 : Int32} {σ : Hp} {K : Int32 → Hp → Prop} (hr : rv σ v0 11) (hf : F_X11_across l G d v0 v1 σ K) : C_X11_across l G (d + 1) v0 v1 σ K := ⟨hr, Sp.of (by decide) (Nat.le_of_ble_eq_true rfl) (b_X11_across_0 hf) rfl⟩
def F_X11_taken (l : Launch) (G : GG) (d : Nat) (v0 : Nat) (σ : Hp) (K : Int32 → Hp → Prop) : Prop :=
  fR σ v0 11 5 fun x1 =>
  (∀ b2, x1 = some b2 →
    fN σ v0 11 7 fun x3 =>
    fI σ x3 1 2 fun x4 =>
    C_X11_accept l G d v0 x4 σ fun r6 σ5 =>
    K r6 σ5) ∧
  (x1 = none →
    C_X11_refuse l G d v0 1 σ fun r8 σ7 =>
    K r8 σ7)
set_option maxRecDepth 100000 in
set_option maxHeartbeats 4000000 in
theorem b_X11_taken_0 {l : Launch} {G : GG} {d : Nat} {v0 : Nat} {σ : Hp} {K : Int32 → Hp → Prop} (hf : F_X11_taken l G d v0 σ K) : Wd l G (d + 1) "CoinsLaid" yX11_taken cX11_taken 1 (some FieldType.int) 0 [(0, aR (some v0))] [] σ 0 0 (xM (QI K)) := by
  unfold F_X11_taken at hf
  refine r_aload_n (j := 0) rfl rfl dX11_taken_0 ?_
  obtain ⟨fs_x1, x1, ha_x1, hv_x1, hf⟩ := hf
  refine r_get (Cn := RX11) (Tt := TX11) (N := 12) (n := 5) rfl uw_X11 (Nat.le_of_ble_eq_true rfl) wd_1_178 ha_x1 hv_x1 dX11_taken_1 ?_
  refine r_ifnonnull (o := x1) (tgt := 13) (by decide) dX11_taken_4 (fun b2 hc => ?_) (fun hc => ?_)
  · replace hf := hf.1 b2 hc
    subst hc
    refine r_aload_n (j := 0) rfl rfl dX11_taken_13 ?_
    refine r_aload_n (j := 0) rfl rfl dX11_taken_14 ?_
    obtain ⟨fs_x3, x3, ha_x3, hv_x3, hf⟩ := hf
    refine r_get (Cn := RX11) (Tt := TX11) (N := 12) (n := 7) rfl uw_X11 (Nat.le_of_ble_eq_true rfl) wd_1_180 ha_x3 hv_x3 dX11_taken_15 ?_
    obtain ⟨fs_x4, x4, ha_x4, hv_x4, hf⟩ := hf
    refine r_get (Cn := RX1) (Tt := TX1) (N := 4) (n := 2) rfl uw_X1 (Nat.le_of_ble_eq_true rfl) wd_1_97 ha_x4 hv_x4 dX11_taken_18 ?_
    try unfold C_X11_accept at hf
    obtain ⟨⟨fs_r6, ha_r6⟩, hf⟩ := hf
    refine r_invVI (t := 11) (As := [aI x4]) (dz := d) (mz := 0) (sz := 0) rfl wd_4_118 wd_4_120 wd_p_30 cf_X11_accept (Nat.le_refl _) (Nat.zero_le _) (Nat.zero_le _) (cat_ok (Nat.le_of_ble_eq_true rfl)) rfl rfl ha_r6 dX11_taken_21 hf (fun r6 σ5 hk => ?_)
    replace hf := hk
    clear hk
    exact r_ireturn rfl dX11_taken_24 rfl ⟨_, rfl, hf⟩
  · replace hf := hf.2 hc
    subst hc
    refine r_aload_n (j := 0) rfl rfl dX11_taken_7 ?_
    refine r_iconst (v := 1) (by decide) dX11_taken_8 ?_
    try unfold C_X11_refuse at hf
    obtain ⟨⟨fs_r8, ha_r8⟩, hf⟩ := hf
    refine r_invVI (t := 11) (As := [aI 1]) (dz := d) (mz := 0) (sz := 0) rfl wd_1_222 wd_1_224 wd_p_1 cf_X11_refuse (Nat.le_refl _) (Nat.zero_le _) (Nat.zero_le _) (cat_ok (Nat.le_of_ble_eq_true rfl)) rfl rfl ha_r8 dX11_taken_9 hf (fun r8 σ7 hk => ?_)
    replace hf := hk
    clear hk
    exact r_ireturn rfl dX11_taken_12 rfl ⟨_, rfl, hf⟩
theorem m_X11_taken {l : Launch} {G : GG} {d : Nat} {v0 : Nat} {σ : Hp} {K : Int32 → Hp → Prop} (hr : rv σ v0 11) (hf : F_X11_taken l G d v0 σ K) : C_X11_taken l G (d + 1) v0 σ K := ⟨hr, Sp.of (by decide) (Nat.le_of_ble_eq_true rfl) (b_X11_taken_0 hf) rfl⟩
def F_X11_dead (l : Launch) (G : GG) (d : Nat) (v0 : Nat) (σ : Hp) (K : Int32 → Hp → Prop) : Prop :=
  fR σ v0 11 5 fun x1 =>
  (∀ b2, x1 = some b2 →
    fR σ v0 11 5 fun x3 =>
    fN σ v0 11 7 fun x4 =>
    fI σ x4 1 2 fun x5 =>
    ∃ b6, x3 = some b6 ∧
    C_X8_deadSquares l G d b6 x5 σ fun r8 σ7 =>
    C_X11_accept l G d v0 r8 σ7 fun r10 σ9 =>
    K r10 σ9) ∧
  (x1 = none →
    C_X11_refuse l G d v0 1 σ fun r12 σ11 =>
    K r12 σ11)
set_option maxRecDepth 100000 in
set_option maxHeartbeats 4000000 in
theorem b_X11_dead_0 {l : Launch} {G : GG} {d : Nat} {v0 : Nat} {σ : Hp} {K : Int32 → Hp → Prop} (hf : F_X11_dead l G d v0 σ K) : Wd l G (d + 1) "CoinsLaid" yX11_dead cX11_dead 1 (some FieldType.int) 0 [(0, aR (some v0))] [] σ 0 0 (xM (QI K)) := by
  unfold F_X11_dead at hf
  refine r_aload_n (j := 0) rfl rfl dX11_dead_0 ?_
  obtain ⟨fs_x1, x1, ha_x1, hv_x1, hf⟩ := hf
  refine r_get (Cn := RX11) (Tt := TX11) (N := 12) (n := 5) rfl uw_X11 (Nat.le_of_ble_eq_true rfl) wd_1_178 ha_x1 hv_x1 dX11_dead_1 ?_
  refine r_ifnonnull (o := x1) (tgt := 13) (by decide) dX11_dead_4 (fun b2 hc => ?_) (fun hc => ?_)
  · replace hf := hf.1 b2 hc
    subst hc
    refine r_aload_n (j := 0) rfl rfl dX11_dead_13 ?_
    refine r_aload_n (j := 0) rfl rfl dX11_dead_14 ?_
    obtain ⟨fs_x3, x3, ha_x3, hv_x3, hf⟩ := hf
    refine r_get (Cn := RX11) (Tt := TX11) (N := 12) (n := 5) rfl uw_X11 (Nat.le_of_ble_eq_true rfl) wd_1_178 ha_x3 hv_x3 dX11_dead_15 ?_
    refine r_aload_n (j := 0) rfl rfl dX11_dead_18 ?_
    obtain ⟨fs_x4, x4, ha_x4, hv_x4, hf⟩ := hf
    refine r_get (Cn := RX11) (Tt := TX11) (N := 12) (n := 7) rfl uw_X11 (Nat.le_of_ble_eq_true rfl) wd_1_180 ha_x4 hv_x4 dX11_dead_19 ?_
    obtain ⟨fs_x5, x5, ha_x5, hv_x5, hf⟩ := hf
    refine r_get (Cn := RX1) (Tt := TX1) (N := 4) (n := 2) rfl uw_X1 (Nat.le_of_ble_eq_true rfl) wd_1_97 ha_x5 hv_x5 dX11_dead_22 ?_
    obtain ⟨b6, hb_b6, hf⟩ := hf
    subst hb_b6
    try unfold C_X8_deadSquares at hf
    obtain ⟨⟨fs_r8, ha_r8⟩, hf⟩ := hf
    refine r_invVI (t := 8) (As := [aI x5]) (dz := d) (mz := 0) (sz := 0) rfl wd_4_201 wd_4_202 wd_4_203 cf_X8_deadSquares (Nat.le_refl _) (Nat.zero_le _) (Nat.zero_le _) (cat_ok (Nat.le_of_ble_eq_true rfl)) rfl rfl ha_r8 dX11_dead_25 hf (fun r8 σ7 hk => ?_)
    replace hf := hk
    clear hk
    try unfold C_X11_accept at hf
    obtain ⟨⟨fs_r10, ha_r10⟩, hf⟩ := hf
    refine r_invVI (t := 11) (As := [aI r8]) (dz := d) (mz := 0) (sz := 0) rfl wd_4_118 wd_4_120 wd_p_30 cf_X11_accept (Nat.le_refl _) (Nat.zero_le _) (Nat.zero_le _) (cat_ok (Nat.le_of_ble_eq_true rfl)) rfl rfl ha_r10 dX11_dead_28 hf (fun r10 σ9 hk => ?_)
    replace hf := hk
    clear hk
    exact r_ireturn rfl dX11_dead_31 rfl ⟨_, rfl, hf⟩
  · replace hf := hf.2 hc
    subst hc
    refine r_aload_n (j := 0) rfl rfl dX11_dead_7 ?_
    refine r_iconst (v := 1) (by decide) dX11_dead_8 ?_
    try unfold C_X11_refuse at hf
    obtain ⟨⟨fs_r12, ha_r12⟩, hf⟩ := hf
    refine r_invVI (t := 11) (As := [aI 1]) (dz := d) (mz := 0) (sz := 0) rfl wd_1_222 wd_1_224 wd_p_1 cf_X11_refuse (Nat.le_refl _) (Nat.zero_le _) (Nat.zero_le _) (cat_ok (Nat.le_of_ble_eq_true rfl)) rfl rfl ha_r12 dX11_dead_9 hf (fun r12 σ11 hk => ?_)
    replace hf := hk
    clear hk
    exact r_ireturn rfl dX11_dead_12 rfl ⟨_, rfl, hf⟩
theorem m_X11_dead {l : Launch} {G : GG} {d : Nat} {v0 : Nat} {σ : Hp} {K : Int32 → Hp → Prop} (hr : rv σ v0 11) (hf : F_X11_dead l G d v0 σ K) : C_X11_dead l G (d + 1) v0 σ K := ⟨hr, Sp.of (by decide) (Nat.le_of_ble_eq_true rfl) (b_X11_dead_0 hf) rfl⟩
def F_X11_over_26 (l : Launch) (G : GG) (d : Nat) (s0 : Nat) (s1 : Bool) (σ : Hp) (K : Int32 → Hp → Prop) : Prop :=
  C_X11_accept l G d s0 (bi s1) σ fun r2 σ1 =>
  K r2 σ1
set_option maxRecDepth 100000 in
set_option maxHeartbeats 4000000 in
theorem b_X11_over_26 {l : Launch} {G : GG} {d : Nat} {s0 : Nat} {s1 : Bool} {σ : Hp} {K : Int32 → Hp → Prop} (hf : F_X11_over_26 l G d s0 s1 σ K) : Wd l G (d + 1) "CoinsLaid" yX11_over cX11_over 1 (some FieldType.int) 26 [] [aI (bi s1), aR (some s0)] σ 0 0 (xM (QI K)) := by
  unfold F_X11_over_26 at hf
  try unfold C_X11_accept at hf
  obtain ⟨⟨fs_r2, ha_r2⟩, hf⟩ := hf
  refine r_invVI (t := 11) (As := [aI (bi s1)]) (dz := d) (mz := 0) (sz := 0) rfl wd_4_118 wd_4_120 wd_p_30 cf_X11_accept (Nat.le_refl _) (Nat.zero_le _) (Nat.zero_le _) (cat_ok (Nat.le_of_ble_eq_true rfl)) rfl rfl ha_r2 dX11_over_26 hf (fun r2 σ1 hk => ?_)
  replace hf := hk
  clear hk
  exact r_ireturn rfl dX11_over_29 rfl ⟨_, rfl, hf⟩
def F_X11_over (l : Launch) (G : GG) (d : Nat) (v0 : Nat) (σ : Hp) (K : Int32 → Hp → Prop) : Prop :=
  fR σ v0 11 5 fun x3 =>
  (∀ b4, x3 = some b4 →
    C_X11_isOver l G d v0 σ fun r6 σ5 =>
    (r6 = false →
      F_X11_over_26 l G d v0 false σ5 K) ∧
    (r6 = true →
      F_X11_over_26 l G d v0 true σ5 K)) ∧
  (x3 = none →
    C_X11_refuse l G d v0 1 σ fun r8 σ7 =>
    K r8 σ7)
set_option maxRecDepth 100000 in
set_option maxHeartbeats 4000000 in
theorem b_X11_over_0 {l : Launch} {G : GG} {d : Nat} {v0 : Nat} {σ : Hp} {K : Int32 → Hp → Prop} (hf : F_X11_over l G d v0 σ K) : Wd l G (d + 1) "CoinsLaid" yX11_over cX11_over 1 (some FieldType.int) 0 [(0, aR (some v0))] [] σ 0 0 (xM (QI K)) := by
  unfold F_X11_over at hf
  refine r_aload_n (j := 0) rfl rfl dX11_over_0 ?_
  obtain ⟨fs_x3, x3, ha_x3, hv_x3, hf⟩ := hf
  refine r_get (Cn := RX11) (Tt := TX11) (N := 12) (n := 5) rfl uw_X11 (Nat.le_of_ble_eq_true rfl) wd_1_178 ha_x3 hv_x3 dX11_over_1 ?_
  refine r_ifnonnull (o := x3) (tgt := 13) (by decide) dX11_over_4 (fun b4 hc => ?_) (fun hc => ?_)
  · replace hf := hf.1 b4 hc
    subst hc
    refine r_aload_n (j := 0) rfl rfl dX11_over_13 ?_
    refine r_aload_n (j := 0) rfl rfl dX11_over_14 ?_
    try unfold C_X11_isOver at hf
    obtain ⟨⟨fs_r6, ha_r6⟩, hf⟩ := hf
    refine r_invVZ (t := 11) (As := []) (dz := d) (mz := 0) (sz := 0) rfl wd_4_210 wd_4_212 wd_p_32 cf_X11_isOver (Nat.le_refl _) (Nat.zero_le _) (Nat.zero_le _) (cat_ok (Nat.le_of_ble_eq_true rfl)) rfl rfl ha_r6 dX11_over_15 hf (fun r6 σ5 hk => ?_)
    replace hf := hk
    clear hk
    refine r_ifeqZ (b := r6) (tgt := 25) (by decide) dX11_over_18 (fun hc => ?_) (fun hc => ?_)
    · replace hf := hf.1 hc
      refine r_iconst (v := 0) (by decide) dX11_over_25 ?_
      exact r_sub [] rfl (b_X11_over_26 hf)
    · replace hf := hf.2 hc
      refine r_iconst (v := 1) (by decide) dX11_over_21 ?_
      refine r_goto (tgt := 26) (by decide) dX11_over_22 ?_
      exact r_sub [] rfl (b_X11_over_26 hf)
  · replace hf := hf.2 hc
    subst hc
    refine r_aload_n (j := 0) rfl rfl dX11_over_7 ?_
    refine r_iconst (v := 1) (by decide) dX11_over_8 ?_
    try unfold C_X11_refuse at hf
    obtain ⟨⟨fs_r8, ha_r8⟩, hf⟩ := hf
    refine r_invVI (t := 11) (As := [aI 1]) (dz := d) (mz := 0) (sz := 0) rfl wd_1_222 wd_1_224 wd_p_1 cf_X11_refuse (Nat.le_refl _) (Nat.zero_le _) (Nat.zero_le _) (cat_ok (Nat.le_of_ble_eq_true rfl)) rfl rfl ha_r8 dX11_over_9 hf (fun r8 σ7 hk => ?_)
    replace hf := hk
    clear hk
    exact r_ireturn rfl dX11_over_12 rfl ⟨_, rfl, hf⟩
theorem m_X11_over {l : Launch} {G : GG} {d : Nat} {v0 : Nat} {σ : Hp} {K : Int32 → Hp → Prop} (hr : rv σ v0 11) (hf : F_X11_over l G d v0 σ K) : C_X11_over l G (d + 1) v0 σ K := ⟨hr, Sp.of (by decide) (Nat.le_of_ble_eq_true rfl) (b_X11_over_0 hf) rfl⟩
def F_X11_has_43 (l : Launch) (G : GG) (d : Nat) (s0 : Nat) (s1 : Bool) (σ : Hp) (K : Int32 → Hp → Prop) : Prop :=
  C_X11_accept l G d s0 (bi s1) σ fun r2 σ1 =>
  K r2 σ1
set_option maxRecDepth 100000 in
set_option maxHeartbeats 4000000 in
theorem b_X11_has_43 {l : Launch} {G : GG} {d : Nat} {s0 : Nat} {s1 : Bool} {σ : Hp} {K : Int32 → Hp → Prop} (hf : F_X11_has_43 l G d s0 s1 σ K) : Wd l G (d + 1) "CoinsLaid" yX11_has cX11_has 1 (some FieldType.int) 43 [] [aI (bi s1), aR (some s0)] σ 0 0 (xM (QI K)) := by
  unfold F_X11_has_43 at hf
  try unfold C_X11_accept at hf
  obtain ⟨⟨fs_r2, ha_r2⟩, hf⟩ := hf
  refine r_invVI (t := 11) (As := [aI (bi s1)]) (dz := d) (mz := 0) (sz := 0) rfl wd_4_118 wd_4_120 wd_p_30 cf_X11_accept (Nat.le_refl _) (Nat.zero_le _) (Nat.zero_le _) (cat_ok (Nat.le_of_ble_eq_true rfl)) rfl rfl ha_r2 dX11_has_43 hf (fun r2 σ1 hk => ?_)
  replace hf := hk
  clear hk
  exact r_ireturn rfl dX11_has_46 rfl ⟨_, rfl, hf⟩
def F_X11_has (l : Launch) (G : GG) (d : Nat) (v0 : Nat) (σ : Hp) (K : Int32 → Hp → Prop) : Prop :=
  fR σ v0 11 5 fun x3 =>
  (∀ b4, x3 = some b4 →
    fN σ v0 11 6 fun x5 =>
    fN σ v0 11 7 fun x6 =>
    fI σ x6 1 2 fun x7 =>
    fN σ v0 11 7 fun x8 =>
    C_X1_next l G d x8 σ fun r10 σ9 =>
    C_X3_isWon l G d x5 x7 r10 σ9 fun r12 σ11 =>
    (r12 = false →
      F_X11_has_43 l G d v0 false σ11 K) ∧
    (r12 = true →
      F_X11_has_43 l G d v0 true σ11 K)) ∧
  (x3 = none →
    C_X11_refuse l G d v0 1 σ fun r14 σ13 =>
    K r14 σ13)
set_option maxRecDepth 100000 in
set_option maxHeartbeats 4000000 in
theorem b_X11_has_0 {l : Launch} {G : GG} {d : Nat} {v0 : Nat} {σ : Hp} {K : Int32 → Hp → Prop} (hf : F_X11_has l G d v0 σ K) : Wd l G (d + 1) "CoinsLaid" yX11_has cX11_has 1 (some FieldType.int) 0 [(0, aR (some v0))] [] σ 0 0 (xM (QI K)) := by
  unfold F_X11_has at hf
  refine r_aload_n (j := 0) rfl rfl dX11_has_0 ?_
  obtain ⟨fs_x3, x3, ha_x3, hv_x3, hf⟩ := hf
  refine r_get (Cn := RX11) (Tt := TX11) (N := 12) (n := 5) rfl uw_X11 (Nat.le_of_ble_eq_true rfl) wd_1_178 ha_x3 hv_x3 dX11_has_1 ?_
  refine r_ifnonnull (o := x3) (tgt := 13) (by decide) dX11_has_4 (fun b4 hc => ?_) (fun hc => ?_)
  · replace hf := hf.1 b4 hc
    subst hc
    refine r_aload_n (j := 0) rfl rfl dX11_has_13 ?_
    refine r_aload_n (j := 0) rfl rfl dX11_has_14 ?_
    obtain ⟨fs_x5, x5, ha_x5, hv_x5, hf⟩ := hf
    refine r_get (Cn := RX11) (Tt := TX11) (N := 12) (n := 6) rfl uw_X11 (Nat.le_of_ble_eq_true rfl) wd_1_179 ha_x5 hv_x5 dX11_has_15 ?_
    refine r_aload_n (j := 0) rfl rfl dX11_has_18 ?_
    obtain ⟨fs_x6, x6, ha_x6, hv_x6, hf⟩ := hf
    refine r_get (Cn := RX11) (Tt := TX11) (N := 12) (n := 7) rfl uw_X11 (Nat.le_of_ble_eq_true rfl) wd_1_180 ha_x6 hv_x6 dX11_has_19 ?_
    obtain ⟨fs_x7, x7, ha_x7, hv_x7, hf⟩ := hf
    refine r_get (Cn := RX1) (Tt := TX1) (N := 4) (n := 2) rfl uw_X1 (Nat.le_of_ble_eq_true rfl) wd_1_97 ha_x7 hv_x7 dX11_has_22 ?_
    refine r_aload_n (j := 0) rfl rfl dX11_has_25 ?_
    obtain ⟨fs_x8, x8, ha_x8, hv_x8, hf⟩ := hf
    refine r_get (Cn := RX11) (Tt := TX11) (N := 12) (n := 7) rfl uw_X11 (Nat.le_of_ble_eq_true rfl) wd_1_180 ha_x8 hv_x8 dX11_has_26 ?_
    try unfold C_X1_next at hf
    obtain ⟨⟨fs_r10, ha_r10⟩, hf⟩ := hf
    refine r_invVI (t := 1) (As := []) (dz := d) (mz := 0) (sz := 0) rfl wd_4_170 wd_4_75 wd_4_76 cf_X1_next (Nat.le_refl _) (Nat.zero_le _) (Nat.zero_le _) (cat_ok (Nat.le_of_ble_eq_true rfl)) rfl rfl ha_r10 dX11_has_29 hf (fun r10 σ9 hk => ?_)
    replace hf := hk
    clear hk
    try unfold C_X3_isWon at hf
    obtain ⟨⟨fs_r12, ha_r12⟩, hf⟩ := hf
    refine r_invVZ (t := 3) (As := [aI x7, aI r10]) (dz := d) (mz := 0) (sz := 0) rfl wd_4_218 wd_4_219 wd_4_220 cf_X3_isWon (Nat.le_refl _) (Nat.zero_le _) (Nat.zero_le _) (cat_ok (Nat.le_of_ble_eq_true rfl)) rfl rfl ha_r12 dX11_has_32 hf (fun r12 σ11 hk => ?_)
    replace hf := hk
    clear hk
    refine r_ifeqZ (b := r12) (tgt := 42) (by decide) dX11_has_35 (fun hc => ?_) (fun hc => ?_)
    · replace hf := hf.1 hc
      refine r_iconst (v := 0) (by decide) dX11_has_42 ?_
      exact r_sub [] rfl (b_X11_has_43 hf)
    · replace hf := hf.2 hc
      refine r_iconst (v := 1) (by decide) dX11_has_38 ?_
      refine r_goto (tgt := 43) (by decide) dX11_has_39 ?_
      exact r_sub [] rfl (b_X11_has_43 hf)
  · replace hf := hf.2 hc
    subst hc
    refine r_aload_n (j := 0) rfl rfl dX11_has_7 ?_
    refine r_iconst (v := 1) (by decide) dX11_has_8 ?_
    try unfold C_X11_refuse at hf
    obtain ⟨⟨fs_r14, ha_r14⟩, hf⟩ := hf
    refine r_invVI (t := 11) (As := [aI 1]) (dz := d) (mz := 0) (sz := 0) rfl wd_1_222 wd_1_224 wd_p_1 cf_X11_refuse (Nat.le_refl _) (Nat.zero_le _) (Nat.zero_le _) (cat_ok (Nat.le_of_ble_eq_true rfl)) rfl rfl ha_r14 dX11_has_9 hf (fun r14 σ13 hk => ?_)
    replace hf := hk
    clear hk
    exact r_ireturn rfl dX11_has_12 rfl ⟨_, rfl, hf⟩
theorem m_X11_has {l : Launch} {G : GG} {d : Nat} {v0 : Nat} {σ : Hp} {K : Int32 → Hp → Prop} (hr : rv σ v0 11) (hf : F_X11_has l G d v0 σ K) : C_X11_has l G (d + 1) v0 σ K := ⟨hr, Sp.of (by decide) (Nat.le_of_ble_eq_true rfl) (b_X11_has_0 hf) rfl⟩
def F_X11_best (l : Launch) (G : GG) (d : Nat) (v0 : Nat) (σ : Hp) (K : Int32 → Hp → Prop) : Prop :=
  fR σ v0 11 5 fun x1 =>
  (∀ b2, x1 = some b2 →
    fN σ v0 11 6 fun x3 =>
    fN σ v0 11 7 fun x4 =>
    fI σ x4 1 2 fun x5 =>
    fN σ v0 11 7 fun x6 =>
    C_X1_next l G d x6 σ fun r8 σ7 =>
    C_X3_firstWinning l G d x3 x5 r8 σ7 fun r10 σ9 =>
    C_X11_numberOf l G d r10 σ9 fun r12 σ11 =>
    C_X11_accept l G d v0 r12 σ11 fun r14 σ13 =>
    K r14 σ13) ∧
  (x1 = none →
    C_X11_refuse l G d v0 1 σ fun r16 σ15 =>
    K r16 σ15)
set_option maxRecDepth 100000 in
set_option maxHeartbeats 4000000 in
theorem b_X11_best_0 {l : Launch} {G : GG} {d : Nat} {v0 : Nat} {σ : Hp} {K : Int32 → Hp → Prop} (hf : F_X11_best l G d v0 σ K) : Wd l G (d + 1) "CoinsLaid" yX11_best cX11_best 1 (some FieldType.int) 0 [(0, aR (some v0))] [] σ 0 0 (xM (QI K)) := by
  unfold F_X11_best at hf
  refine r_aload_n (j := 0) rfl rfl dX11_best_0 ?_
  obtain ⟨fs_x1, x1, ha_x1, hv_x1, hf⟩ := hf
  refine r_get (Cn := RX11) (Tt := TX11) (N := 12) (n := 5) rfl uw_X11 (Nat.le_of_ble_eq_true rfl) wd_1_178 ha_x1 hv_x1 dX11_best_1 ?_
  refine r_ifnonnull (o := x1) (tgt := 13) (by decide) dX11_best_4 (fun b2 hc => ?_) (fun hc => ?_)
  · replace hf := hf.1 b2 hc
    subst hc
    refine r_aload_n (j := 0) rfl rfl dX11_best_13 ?_
    refine r_aload_n (j := 0) rfl rfl dX11_best_14 ?_
    obtain ⟨fs_x3, x3, ha_x3, hv_x3, hf⟩ := hf
    refine r_get (Cn := RX11) (Tt := TX11) (N := 12) (n := 6) rfl uw_X11 (Nat.le_of_ble_eq_true rfl) wd_1_179 ha_x3 hv_x3 dX11_best_15 ?_
    refine r_aload_n (j := 0) rfl rfl dX11_best_18 ?_
    obtain ⟨fs_x4, x4, ha_x4, hv_x4, hf⟩ := hf
    refine r_get (Cn := RX11) (Tt := TX11) (N := 12) (n := 7) rfl uw_X11 (Nat.le_of_ble_eq_true rfl) wd_1_180 ha_x4 hv_x4 dX11_best_19 ?_
    obtain ⟨fs_x5, x5, ha_x5, hv_x5, hf⟩ := hf
    refine r_get (Cn := RX1) (Tt := TX1) (N := 4) (n := 2) rfl uw_X1 (Nat.le_of_ble_eq_true rfl) wd_1_97 ha_x5 hv_x5 dX11_best_22 ?_
    refine r_aload_n (j := 0) rfl rfl dX11_best_25 ?_
    obtain ⟨fs_x6, x6, ha_x6, hv_x6, hf⟩ := hf
    refine r_get (Cn := RX11) (Tt := TX11) (N := 12) (n := 7) rfl uw_X11 (Nat.le_of_ble_eq_true rfl) wd_1_180 ha_x6 hv_x6 dX11_best_26 ?_
    try unfold C_X1_next at hf
    obtain ⟨⟨fs_r8, ha_r8⟩, hf⟩ := hf
    refine r_invVI (t := 1) (As := []) (dz := d) (mz := 0) (sz := 0) rfl wd_4_170 wd_4_75 wd_4_76 cf_X1_next (Nat.le_refl _) (Nat.zero_le _) (Nat.zero_le _) (cat_ok (Nat.le_of_ble_eq_true rfl)) rfl rfl ha_r8 dX11_best_29 hf (fun r8 σ7 hk => ?_)
    replace hf := hk
    clear hk
    try unfold C_X3_firstWinning at hf
    obtain ⟨⟨fs_r10, ha_r10⟩, hf⟩ := hf
    refine r_invVR (t := 3) (As := [aI x5, aI r8]) (dz := d) (mz := 0) (sz := 0) rfl wd_5_17 wd_5_18 wd_5_19 cf_X3_firstWinning (Nat.le_refl _) (Nat.zero_le _) (Nat.zero_le _) (cat_ok (Nat.le_of_ble_eq_true rfl)) rfl rfl ha_r10 dX11_best_32 hf (fun r10 σ9 hk => ?_)
    replace hf := hk
    clear hk
    try unfold C_X11_numberOf at hf
    refine r_invSI (As := [aR r10]) (dz := d) (mz := 0) (sz := 0) rfl wd_4_163 wd_4_164 cf_X11_numberOf (Nat.le_refl _) (Nat.zero_le _) (Nat.zero_le _) (cat_ok (Nat.le_of_ble_eq_true rfl)) dX11_best_35 hf (fun r12 σ11 hk => ?_)
    replace hf := hk
    clear hk
    try unfold C_X11_accept at hf
    obtain ⟨⟨fs_r14, ha_r14⟩, hf⟩ := hf
    refine r_invVI (t := 11) (As := [aI r12]) (dz := d) (mz := 0) (sz := 0) rfl wd_4_118 wd_4_120 wd_p_30 cf_X11_accept (Nat.le_refl _) (Nat.zero_le _) (Nat.zero_le _) (cat_ok (Nat.le_of_ble_eq_true rfl)) rfl rfl ha_r14 dX11_best_38 hf (fun r14 σ13 hk => ?_)
    replace hf := hk
    clear hk
    exact r_ireturn rfl dX11_best_41 rfl ⟨_, rfl, hf⟩
  · replace hf := hf.2 hc
    subst hc
    refine r_aload_n (j := 0) rfl rfl dX11_best_7 ?_
    refine r_iconst (v := 1) (by decide) dX11_best_8 ?_
    try unfold C_X11_refuse at hf
    obtain ⟨⟨fs_r16, ha_r16⟩, hf⟩ := hf
    refine r_invVI (t := 11) (As := [aI 1]) (dz := d) (mz := 0) (sz := 0) rfl wd_1_222 wd_1_224 wd_p_1 cf_X11_refuse (Nat.le_refl _) (Nat.zero_le _) (Nat.zero_le _) (cat_ok (Nat.le_of_ble_eq_true rfl)) rfl rfl ha_r16 dX11_best_9 hf (fun r16 σ15 hk => ?_)
    replace hf := hk
    clear hk
    exact r_ireturn rfl dX11_best_12 rfl ⟨_, rfl, hf⟩
theorem m_X11_best {l : Launch} {G : GG} {d : Nat} {v0 : Nat} {σ : Hp} {K : Int32 → Hp → Prop} (hr : rv σ v0 11) (hf : F_X11_best l G d v0 σ K) : C_X11_best l G (d + 1) v0 σ K := ⟨hr, Sp.of (by decide) (Nat.le_of_ble_eq_true rfl) (b_X11_best_0 hf) rfl⟩
def F_X11_good (l : Launch) (G : GG) (d : Nat) (v0 : Nat) (σ : Hp) (K : Int32 → Hp → Prop) : Prop :=
  fR σ v0 11 5 fun x1 =>
  (∀ b2, x1 = some b2 →
    fN σ v0 11 6 fun x3 =>
    fN σ v0 11 7 fun x4 =>
    fI σ x4 1 2 fun x5 =>
    fN σ v0 11 7 fun x6 =>
    C_X1_next l G d x6 σ fun r8 σ7 =>
    C_X3_countWinning l G d x3 x5 r8 σ7 fun r10 σ9 =>
    C_X11_accept l G d v0 r10 σ9 fun r12 σ11 =>
    K r12 σ11) ∧
  (x1 = none →
    C_X11_refuse l G d v0 1 σ fun r14 σ13 =>
    K r14 σ13)
set_option maxRecDepth 100000 in
set_option maxHeartbeats 4000000 in
theorem b_X11_good_0 {l : Launch} {G : GG} {d : Nat} {v0 : Nat} {σ : Hp} {K : Int32 → Hp → Prop} (hf : F_X11_good l G d v0 σ K) : Wd l G (d + 1) "CoinsLaid" yX11_good cX11_good 1 (some FieldType.int) 0 [(0, aR (some v0))] [] σ 0 0 (xM (QI K)) := by
  unfold F_X11_good at hf
  refine r_aload_n (j := 0) rfl rfl dX11_good_0 ?_
  obtain ⟨fs_x1, x1, ha_x1, hv_x1, hf⟩ := hf
  refine r_get (Cn := RX11) (Tt := TX11) (N := 12) (n := 5) rfl uw_X11 (Nat.le_of_ble_eq_true rfl) wd_1_178 ha_x1 hv_x1 dX11_good_1 ?_
  refine r_ifnonnull (o := x1) (tgt := 13) (by decide) dX11_good_4 (fun b2 hc => ?_) (fun hc => ?_)
  · replace hf := hf.1 b2 hc
    subst hc
    refine r_aload_n (j := 0) rfl rfl dX11_good_13 ?_
    refine r_aload_n (j := 0) rfl rfl dX11_good_14 ?_
    obtain ⟨fs_x3, x3, ha_x3, hv_x3, hf⟩ := hf
    refine r_get (Cn := RX11) (Tt := TX11) (N := 12) (n := 6) rfl uw_X11 (Nat.le_of_ble_eq_true rfl) wd_1_179 ha_x3 hv_x3 dX11_good_15 ?_
    refine r_aload_n (j := 0) rfl rfl dX11_good_18 ?_
    obtain ⟨fs_x4, x4, ha_x4, hv_x4, hf⟩ := hf
    refine r_get (Cn := RX11) (Tt := TX11) (N := 12) (n := 7) rfl uw_X11 (Nat.le_of_ble_eq_true rfl) wd_1_180 ha_x4 hv_x4 dX11_good_19 ?_
    obtain ⟨fs_x5, x5, ha_x5, hv_x5, hf⟩ := hf
    refine r_get (Cn := RX1) (Tt := TX1) (N := 4) (n := 2) rfl uw_X1 (Nat.le_of_ble_eq_true rfl) wd_1_97 ha_x5 hv_x5 dX11_good_22 ?_
    refine r_aload_n (j := 0) rfl rfl dX11_good_25 ?_
    obtain ⟨fs_x6, x6, ha_x6, hv_x6, hf⟩ := hf
    refine r_get (Cn := RX11) (Tt := TX11) (N := 12) (n := 7) rfl uw_X11 (Nat.le_of_ble_eq_true rfl) wd_1_180 ha_x6 hv_x6 dX11_good_26 ?_
    try unfold C_X1_next at hf
    obtain ⟨⟨fs_r8, ha_r8⟩, hf⟩ := hf
    refine r_invVI (t := 1) (As := []) (dz := d) (mz := 0) (sz := 0) rfl wd_4_170 wd_4_75 wd_4_76 cf_X1_next (Nat.le_refl _) (Nat.zero_le _) (Nat.zero_le _) (cat_ok (Nat.le_of_ble_eq_true rfl)) rfl rfl ha_r8 dX11_good_29 hf (fun r8 σ7 hk => ?_)
    replace hf := hk
    clear hk
    try unfold C_X3_countWinning at hf
    obtain ⟨⟨fs_r10, ha_r10⟩, hf⟩ := hf
    refine r_invVI (t := 3) (As := [aI x5, aI r8]) (dz := d) (mz := 0) (sz := 0) rfl wd_5_26 wd_5_27 wd_5_28 cf_X3_countWinning (Nat.le_refl _) (Nat.zero_le _) (Nat.zero_le _) (cat_ok (Nat.le_of_ble_eq_true rfl)) rfl rfl ha_r10 dX11_good_32 hf (fun r10 σ9 hk => ?_)
    replace hf := hk
    clear hk
    try unfold C_X11_accept at hf
    obtain ⟨⟨fs_r12, ha_r12⟩, hf⟩ := hf
    refine r_invVI (t := 11) (As := [aI r10]) (dz := d) (mz := 0) (sz := 0) rfl wd_4_118 wd_4_120 wd_p_30 cf_X11_accept (Nat.le_refl _) (Nat.zero_le _) (Nat.zero_le _) (cat_ok (Nat.le_of_ble_eq_true rfl)) rfl rfl ha_r12 dX11_good_35 hf (fun r12 σ11 hk => ?_)
    replace hf := hk
    clear hk
    exact r_ireturn rfl dX11_good_38 rfl ⟨_, rfl, hf⟩
  · replace hf := hf.2 hc
    subst hc
    refine r_aload_n (j := 0) rfl rfl dX11_good_7 ?_
    refine r_iconst (v := 1) (by decide) dX11_good_8 ?_
    try unfold C_X11_refuse at hf
    obtain ⟨⟨fs_r14, ha_r14⟩, hf⟩ := hf
    refine r_invVI (t := 11) (As := [aI 1]) (dz := d) (mz := 0) (sz := 0) rfl wd_1_222 wd_1_224 wd_p_1 cf_X11_refuse (Nat.le_refl _) (Nat.zero_le _) (Nat.zero_le _) (cat_ok (Nat.le_of_ble_eq_true rfl)) rfl rfl ha_r14 dX11_good_9 hf (fun r14 σ13 hk => ?_)
    replace hf := hk
    clear hk
    exact r_ireturn rfl dX11_good_12 rfl ⟨_, rfl, hf⟩
theorem m_X11_good {l : Launch} {G : GG} {d : Nat} {v0 : Nat} {σ : Hp} {K : Int32 → Hp → Prop} (hr : rv σ v0 11) (hf : F_X11_good l G d v0 σ K) : C_X11_good l G (d + 1) v0 σ K := ⟨hr, Sp.of (by decide) (Nat.le_of_ble_eq_true rfl) (b_X11_good_0 hf) rfl⟩
def F_X11_soonest (l : Launch) (G : GG) (d : Nat) (v0 : Nat) (σ : Hp) (K : Int32 → Hp → Prop) : Prop :=
  C_X11_read l G d v0 0 σ fun r2 σ1 =>
  K r2 σ1
set_option maxRecDepth 100000 in
set_option maxHeartbeats 4000000 in
theorem b_X11_soonest_0 {l : Launch} {G : GG} {d : Nat} {v0 : Nat} {σ : Hp} {K : Int32 → Hp → Prop} (hf : F_X11_soonest l G d v0 σ K) : Wd l G (d + 1) "CoinsLaid" yX11_soonest cX11_soonest 1 (some FieldType.int) 0 [(0, aR (some v0))] [] σ 0 0 (xM (QI K)) := by
  unfold F_X11_soonest at hf
  refine r_aload_n (j := 0) rfl rfl dX11_soonest_0 ?_
  refine r_iconst (v := 0) (by decide) dX11_soonest_1 ?_
  try unfold C_X11_read at hf
  obtain ⟨⟨fs_r2, ha_r2⟩, hf⟩ := hf
  refine r_invVI (t := 11) (As := [aI 0]) (dz := d) (mz := 0) (sz := 0) rfl wd_5_34 wd_5_36 wd_p_38 cf_X11_read (Nat.le_refl _) (Nat.zero_le _) (Nat.zero_le _) (cat_ok (Nat.le_of_ble_eq_true rfl)) rfl rfl ha_r2 dX11_soonest_2 hf (fun r2 σ1 hk => ?_)
  replace hf := hk
  clear hk
  exact r_ireturn rfl dX11_soonest_5 rfl ⟨_, rfl, hf⟩
theorem m_X11_soonest {l : Launch} {G : GG} {d : Nat} {v0 : Nat} {σ : Hp} {K : Int32 → Hp → Prop} (hr : rv σ v0 11) (hf : F_X11_soonest l G d v0 σ K) : C_X11_soonest l G (d + 1) v0 σ K := ⟨hr, Sp.of (by decide) (Nat.le_of_ble_eq_true rfl) (b_X11_soonest_0 hf) rfl⟩
def F_X11_ways (l : Launch) (G : GG) (d : Nat) (v0 : Nat) (σ : Hp) (K : Int64 → Hp → Prop) : Prop :=
  fR σ v0 11 5 fun x1 =>
  (∀ b2, x1 = some b2 →
    C_X11_accept l G d v0 0 σ fun r4 σ3 =>
    fN σ3 v0 11 6 fun x5 =>
    fN σ3 v0 11 7 fun x6 =>
    fI σ3 x6 1 2 fun x7 =>
    fN σ3 v0 11 7 fun x8 =>
    C_X1_next l G d x8 σ3 fun r10 σ9 =>
    C_X3_rowsOfLays l G d x5 x7 r10 σ9 fun r12 σ11 =>
    K r12 σ11) ∧
  (x1 = none →
    C_X11_refuse l G d v0 1 σ fun r14 σ13 =>
    K ((r14 : Int32).toInt64) σ13)
set_option maxRecDepth 100000 in
set_option maxHeartbeats 4000000 in
theorem b_X11_ways_0 {l : Launch} {G : GG} {d : Nat} {v0 : Nat} {σ : Hp} {K : Int64 → Hp → Prop} (hf : F_X11_ways l G d v0 σ K) : Wd l G (d + 1) "CoinsLaid" yX11_ways cX11_ways 1 (some FieldType.long) 0 [(0, aR (some v0))] [] σ 0 0 (xM (QJ K)) := by
  unfold F_X11_ways at hf
  refine r_aload_n (j := 0) rfl rfl dX11_ways_0 ?_
  obtain ⟨fs_x1, x1, ha_x1, hv_x1, hf⟩ := hf
  refine r_get (Cn := RX11) (Tt := TX11) (N := 12) (n := 5) rfl uw_X11 (Nat.le_of_ble_eq_true rfl) wd_1_178 ha_x1 hv_x1 dX11_ways_1 ?_
  refine r_ifnonnull (o := x1) (tgt := 14) (by decide) dX11_ways_4 (fun b2 hc => ?_) (fun hc => ?_)
  · replace hf := hf.1 b2 hc
    subst hc
    refine r_aload_n (j := 0) rfl rfl dX11_ways_14 ?_
    refine r_iconst (v := 0) (by decide) dX11_ways_15 ?_
    try unfold C_X11_accept at hf
    obtain ⟨⟨fs_r4, ha_r4⟩, hf⟩ := hf
    refine r_invVI (t := 11) (As := [aI 0]) (dz := d) (mz := 0) (sz := 0) rfl wd_4_118 wd_4_120 wd_p_30 cf_X11_accept (Nat.le_refl _) (Nat.zero_le _) (Nat.zero_le _) (cat_ok (Nat.le_of_ble_eq_true rfl)) rfl rfl ha_r4 dX11_ways_16 hf (fun r4 σ3 hk => ?_)
    replace hf := hk
    clear hk
    refine r_pop rfl dX11_ways_19 ?_
    refine r_aload_n (j := 0) rfl rfl dX11_ways_20 ?_
    obtain ⟨fs_x5, x5, ha_x5, hv_x5, hf⟩ := hf
    refine r_get (Cn := RX11) (Tt := TX11) (N := 12) (n := 6) rfl uw_X11 (Nat.le_of_ble_eq_true rfl) wd_1_179 ha_x5 hv_x5 dX11_ways_21 ?_
    refine r_aload_n (j := 0) rfl rfl dX11_ways_24 ?_
    obtain ⟨fs_x6, x6, ha_x6, hv_x6, hf⟩ := hf
    refine r_get (Cn := RX11) (Tt := TX11) (N := 12) (n := 7) rfl uw_X11 (Nat.le_of_ble_eq_true rfl) wd_1_180 ha_x6 hv_x6 dX11_ways_25 ?_
    obtain ⟨fs_x7, x7, ha_x7, hv_x7, hf⟩ := hf
    refine r_get (Cn := RX1) (Tt := TX1) (N := 4) (n := 2) rfl uw_X1 (Nat.le_of_ble_eq_true rfl) wd_1_97 ha_x7 hv_x7 dX11_ways_28 ?_
    refine r_aload_n (j := 0) rfl rfl dX11_ways_31 ?_
    obtain ⟨fs_x8, x8, ha_x8, hv_x8, hf⟩ := hf
    refine r_get (Cn := RX11) (Tt := TX11) (N := 12) (n := 7) rfl uw_X11 (Nat.le_of_ble_eq_true rfl) wd_1_180 ha_x8 hv_x8 dX11_ways_32 ?_
    try unfold C_X1_next at hf
    obtain ⟨⟨fs_r10, ha_r10⟩, hf⟩ := hf
    refine r_invVI (t := 1) (As := []) (dz := d) (mz := 0) (sz := 0) rfl wd_4_170 wd_4_75 wd_4_76 cf_X1_next (Nat.le_refl _) (Nat.zero_le _) (Nat.zero_le _) (cat_ok (Nat.le_of_ble_eq_true rfl)) rfl rfl ha_r10 dX11_ways_35 hf (fun r10 σ9 hk => ?_)
    replace hf := hk
    clear hk
    try unfold C_X3_rowsOfLays at hf
    obtain ⟨⟨fs_r12, ha_r12⟩, hf⟩ := hf
    refine r_invVJ (t := 3) (As := [aI x7, aI r10]) (dz := d) (mz := 0) (sz := 0) rfl wd_5_46 wd_5_47 wd_5_48 cf_X3_rowsOfLays (Nat.le_refl _) (Nat.zero_le _) (Nat.zero_le _) (cat_ok (Nat.le_of_ble_eq_true rfl)) rfl rfl ha_r12 dX11_ways_38 hf (fun r12 σ11 hk => ?_)
    replace hf := hk
    clear hk
    exact r_lreturn rfl dX11_ways_41 rfl ⟨_, rfl, hf⟩
  · replace hf := hf.2 hc
    subst hc
    refine r_aload_n (j := 0) rfl rfl dX11_ways_7 ?_
    refine r_iconst (v := 1) (by decide) dX11_ways_8 ?_
    try unfold C_X11_refuse at hf
    obtain ⟨⟨fs_r14, ha_r14⟩, hf⟩ := hf
    refine r_invVI (t := 11) (As := [aI 1]) (dz := d) (mz := 0) (sz := 0) rfl wd_1_222 wd_1_224 wd_p_1 cf_X11_refuse (Nat.le_refl _) (Nat.zero_le _) (Nat.zero_le _) (cat_ok (Nat.le_of_ble_eq_true rfl)) rfl rfl ha_r14 dX11_ways_9 hf (fun r14 σ13 hk => ?_)
    replace hf := hk
    clear hk
    refine r_i2l (x := r14) dX11_ways_12 ?_
    exact r_lreturn rfl dX11_ways_13 rfl ⟨_, rfl, hf⟩
theorem m_X11_ways {l : Launch} {G : GG} {d : Nat} {v0 : Nat} {σ : Hp} {K : Int64 → Hp → Prop} (hr : rv σ v0 11) (hf : F_X11_ways l G d v0 σ K) : C_X11_ways l G (d + 1) v0 σ K := ⟨hr, Sp.of (by decide) (Nat.le_of_ble_eq_true rfl) (b_X11_ways_0 hf) rfl⟩
def F_X11_heap_35 (l : Launch) (G : GG) (d : Nat) (v0 : Nat) (v1 : Int32) (σ : Hp) (K : Int32 → Hp → Prop) : Prop :=
  fR σ v0 11 5 fun x1 =>
  ∃ b2, x1 = some b2 ∧
  C_X8_isHeap l G d b2 σ fun r4 σ3 =>
  (r4 = true →
    (¬ (v1 : Int32) = ((-1) : Int32) →
      fN σ3 v0 11 6 fun x5 =>
      fR σ3 v0 11 5 fun x6 =>
      ∃ b7, x6 = some b7 ∧
      C_X8_boardAt l G d b7 v1 σ3 fun r9 σ8 =>
      fN σ8 v0 11 7 fun x10 =>
      fI σ8 x10 1 2 fun x11 =>
      ∃ b12, r9 = some b12 ∧
      C_X3_grundyOf l G d x5 b12 x11 σ8 fun r14 σ13 =>
      C_X11_accept l G d v0 r14 σ13 fun r16 σ15 =>
      K r16 σ15) ∧
    ((v1 : Int32) = ((-1) : Int32) →
      fN σ3 v0 11 6 fun x17 =>
      fN σ3 v0 11 7 fun x18 =>
      fI σ3 x18 1 2 fun x19 =>
      C_X3_grundyOfAll l G d x17 x19 σ3 fun r21 σ20 =>
      C_X11_accept l G d v0 r21 σ20 fun r23 σ22 =>
      K r23 σ22)) ∧
  (r4 = false →
    C_X11_refuse l G d v0 5 σ3 fun r25 σ24 =>
    K r25 σ24)
set_option maxRecDepth 100000 in
set_option maxHeartbeats 4000000 in
theorem b_X11_heap_35 {l : Launch} {G : GG} {d : Nat} {v0 : Nat} {v1 : Int32} {σ : Hp} {K : Int32 → Hp → Prop} (hf : F_X11_heap_35 l G d v0 v1 σ K) : Wd l G (d + 1) "CoinsLaid" yX11_heap cX11_heap 2 (some FieldType.int) 35 [(0, aR (some v0)), (1, aI v1)] [] σ 0 0 (xM (QI K)) := by
  unfold F_X11_heap_35 at hf
  refine r_aload_n (j := 0) rfl rfl dX11_heap_35 ?_
  obtain ⟨fs_x1, x1, ha_x1, hv_x1, hf⟩ := hf
  refine r_get (Cn := RX11) (Tt := TX11) (N := 12) (n := 5) rfl uw_X11 (Nat.le_of_ble_eq_true rfl) wd_1_178 ha_x1 hv_x1 dX11_heap_36 ?_
  obtain ⟨b2, hb_b2, hf⟩ := hf
  subst hb_b2
  try unfold C_X8_isHeap at hf
  obtain ⟨⟨fs_r4, ha_r4⟩, hf⟩ := hf
  refine r_invVZ (t := 8) (As := []) (dz := d) (mz := 0) (sz := 0) rfl wd_5_54 wd_5_55 wd_5_56 cf_X8_isHeap (Nat.le_refl _) (Nat.zero_le _) (Nat.zero_le _) (cat_ok (Nat.le_of_ble_eq_true rfl)) rfl rfl ha_r4 dX11_heap_39 hf (fun r4 σ3 hk => ?_)
  replace hf := hk
  clear hk
  refine r_ifneZ (b := r4) (tgt := 51) (by decide) dX11_heap_42 (fun hc => ?_) (fun hc => ?_)
  · replace hf := hf.1 hc
    refine r_iload_n (j := 1) rfl rfl dX11_heap_51 ?_
    refine r_iconst (v := (-1)) (by decide) dX11_heap_52 ?_
    refine r_icmpne (x := v1) (y := (-1)) (tgt := 75) (by decide) dX11_heap_53 (fun hc => ?_) (fun hc => ?_)
    · replace hf := hf.1 hc
      refine r_aload_n (j := 0) rfl rfl dX11_heap_75 ?_
      refine r_aload_n (j := 0) rfl rfl dX11_heap_76 ?_
      obtain ⟨fs_x5, x5, ha_x5, hv_x5, hf⟩ := hf
      refine r_get (Cn := RX11) (Tt := TX11) (N := 12) (n := 6) rfl uw_X11 (Nat.le_of_ble_eq_true rfl) wd_1_179 ha_x5 hv_x5 dX11_heap_77 ?_
      refine r_aload_n (j := 0) rfl rfl dX11_heap_80 ?_
      obtain ⟨fs_x6, x6, ha_x6, hv_x6, hf⟩ := hf
      refine r_get (Cn := RX11) (Tt := TX11) (N := 12) (n := 5) rfl uw_X11 (Nat.le_of_ble_eq_true rfl) wd_1_178 ha_x6 hv_x6 dX11_heap_81 ?_
      refine r_iload_n (j := 1) rfl rfl dX11_heap_84 ?_
      obtain ⟨b7, hb_b7, hf⟩ := hf
      subst hb_b7
      try unfold C_X8_boardAt at hf
      obtain ⟨⟨fs_r9, ha_r9⟩, hf⟩ := hf
      refine r_invVR (t := 8) (As := [aI v1]) (dz := d) (mz := 0) (sz := 0) rfl wd_4_151 wd_4_152 wd_4_153 cf_X8_boardAt (Nat.le_refl _) (Nat.zero_le _) (Nat.zero_le _) (cat_ok (Nat.le_of_ble_eq_true rfl)) rfl rfl ha_r9 dX11_heap_85 hf (fun r9 σ8 hk => ?_)
      replace hf := hk
      clear hk
      refine r_aload_n (j := 0) rfl rfl dX11_heap_88 ?_
      obtain ⟨fs_x10, x10, ha_x10, hv_x10, hf⟩ := hf
      refine r_get (Cn := RX11) (Tt := TX11) (N := 12) (n := 7) rfl uw_X11 (Nat.le_of_ble_eq_true rfl) wd_1_180 ha_x10 hv_x10 dX11_heap_89 ?_
      obtain ⟨fs_x11, x11, ha_x11, hv_x11, hf⟩ := hf
      refine r_get (Cn := RX1) (Tt := TX1) (N := 4) (n := 2) rfl uw_X1 (Nat.le_of_ble_eq_true rfl) wd_1_97 ha_x11 hv_x11 dX11_heap_92 ?_
      obtain ⟨b12, hb_b12, hf⟩ := hf
      subst hb_b12
      try unfold C_X3_grundyOf at hf
      obtain ⟨⟨fs_r14, ha_r14⟩, hf⟩ := hf
      refine r_invVI (t := 3) (As := [aR (some b12), aI x11]) (dz := d) (mz := 0) (sz := 0) rfl wd_5_85 wd_5_66 wd_5_67 cf_X3_grundyOf (Nat.le_refl _) (Nat.zero_le _) (Nat.zero_le _) (cat_ok (Nat.le_of_ble_eq_true rfl)) rfl rfl ha_r14 dX11_heap_95 hf (fun r14 σ13 hk => ?_)
      replace hf := hk
      clear hk
      try unfold C_X11_accept at hf
      obtain ⟨⟨fs_r16, ha_r16⟩, hf⟩ := hf
      refine r_invVI (t := 11) (As := [aI r14]) (dz := d) (mz := 0) (sz := 0) rfl wd_4_118 wd_4_120 wd_p_30 cf_X11_accept (Nat.le_refl _) (Nat.zero_le _) (Nat.zero_le _) (cat_ok (Nat.le_of_ble_eq_true rfl)) rfl rfl ha_r16 dX11_heap_98 hf (fun r16 σ15 hk => ?_)
      replace hf := hk
      clear hk
      exact r_ireturn rfl dX11_heap_101 rfl ⟨_, rfl, hf⟩
    · replace hf := hf.2 hc
      refine r_aload_n (j := 0) rfl rfl dX11_heap_56 ?_
      refine r_aload_n (j := 0) rfl rfl dX11_heap_57 ?_
      obtain ⟨fs_x17, x17, ha_x17, hv_x17, hf⟩ := hf
      refine r_get (Cn := RX11) (Tt := TX11) (N := 12) (n := 6) rfl uw_X11 (Nat.le_of_ble_eq_true rfl) wd_1_179 ha_x17 hv_x17 dX11_heap_58 ?_
      refine r_aload_n (j := 0) rfl rfl dX11_heap_61 ?_
      obtain ⟨fs_x18, x18, ha_x18, hv_x18, hf⟩ := hf
      refine r_get (Cn := RX11) (Tt := TX11) (N := 12) (n := 7) rfl uw_X11 (Nat.le_of_ble_eq_true rfl) wd_1_180 ha_x18 hv_x18 dX11_heap_62 ?_
      obtain ⟨fs_x19, x19, ha_x19, hv_x19, hf⟩ := hf
      refine r_get (Cn := RX1) (Tt := TX1) (N := 4) (n := 2) rfl uw_X1 (Nat.le_of_ble_eq_true rfl) wd_1_97 ha_x19 hv_x19 dX11_heap_65 ?_
      try unfold C_X3_grundyOfAll at hf
      obtain ⟨⟨fs_r21, ha_r21⟩, hf⟩ := hf
      refine r_invVI (t := 3) (As := [aI x19]) (dz := d) (mz := 0) (sz := 0) rfl wd_5_58 wd_5_59 wd_5_60 cf_X3_grundyOfAll (Nat.le_refl _) (Nat.zero_le _) (Nat.zero_le _) (cat_ok (Nat.le_of_ble_eq_true rfl)) rfl rfl ha_r21 dX11_heap_68 hf (fun r21 σ20 hk => ?_)
      replace hf := hk
      clear hk
      try unfold C_X11_accept at hf
      obtain ⟨⟨fs_r23, ha_r23⟩, hf⟩ := hf
      refine r_invVI (t := 11) (As := [aI r21]) (dz := d) (mz := 0) (sz := 0) rfl wd_4_118 wd_4_120 wd_p_30 cf_X11_accept (Nat.le_refl _) (Nat.zero_le _) (Nat.zero_le _) (cat_ok (Nat.le_of_ble_eq_true rfl)) rfl rfl ha_r23 dX11_heap_71 hf (fun r23 σ22 hk => ?_)
      replace hf := hk
      clear hk
      exact r_ireturn rfl dX11_heap_74 rfl ⟨_, rfl, hf⟩
  · replace hf := hf.2 hc
    refine r_aload_n (j := 0) rfl rfl dX11_heap_45 ?_
    refine r_iconst (v := 5) (by decide) dX11_heap_46 ?_
    try unfold C_X11_refuse at hf
    obtain ⟨⟨fs_r25, ha_r25⟩, hf⟩ := hf
    refine r_invVI (t := 11) (As := [aI 5]) (dz := d) (mz := 0) (sz := 0) rfl wd_1_222 wd_1_224 wd_p_1 cf_X11_refuse (Nat.le_refl _) (Nat.zero_le _) (Nat.zero_le _) (cat_ok (Nat.le_of_ble_eq_true rfl)) rfl rfl ha_r25 dX11_heap_47 hf (fun r25 σ24 hk => ?_)
    replace hf := hk
    clear hk
    exact r_ireturn rfl dX11_heap_50 rfl ⟨_, rfl, hf⟩
def F_X11_heap (l : Launch) (G : GG) (d : Nat) (v0 : Nat) (v1 : Int32) (σ : Hp) (K : Int32 → Hp → Prop) : Prop :=
  fR σ v0 11 5 fun x26 =>
  (∀ b27, x26 = some b27 →
    ((v1 : Int32) = ((-1) : Int32) →
      F_X11_heap_35 l G d v0 v1 σ K) ∧
    (¬ (v1 : Int32) = ((-1) : Int32) →
      fR σ v0 11 5 fun x28 =>
      ∃ b29, x28 = some b29 ∧
      C_X8_boardAt l G d b29 v1 σ fun r31 σ30 =>
      (∀ b32, r31 = some b32 →
        F_X11_heap_35 l G d v0 v1 σ30 K) ∧
      (r31 = none →
        C_X11_refuse l G d v0 1 σ30 fun r34 σ33 =>
        K r34 σ33))) ∧
  (x26 = none →
    C_X11_refuse l G d v0 1 σ fun r36 σ35 =>
    K r36 σ35)
set_option maxRecDepth 100000 in
set_option maxHeartbeats 4000000 in
theorem b_X11_heap_0 {l : Launch} {G : GG} {d : Nat} {v0 : Nat} {v1 : Int32} {σ : Hp} {K : Int32 → Hp → Prop} (hf : F_X11_heap l G d v0 v1 σ K) : Wd l G (d + 1) "CoinsLaid" yX11_heap cX11_heap 2 (some FieldType.int) 0 [(0, aR (some v0)), (1, aI v1)] [] σ 0 0 (xM (QI K)) := by
  unfold F_X11_heap at hf
  refine r_aload_n (j := 0) rfl rfl dX11_heap_0 ?_
  obtain ⟨fs_x26, x26, ha_x26, hv_x26, hf⟩ := hf
  refine r_get (Cn := RX11) (Tt := TX11) (N := 12) (n := 5) rfl uw_X11 (Nat.le_of_ble_eq_true rfl) wd_1_178 ha_x26 hv_x26 dX11_heap_1 ?_
  refine r_ifnonnull (o := x26) (tgt := 13) (by decide) dX11_heap_4 (fun b27 hc => ?_) (fun hc => ?_)
  · replace hf := hf.1 b27 hc
    subst hc
    refine r_iload_n (j := 1) rfl rfl dX11_heap_13 ?_
    refine r_iconst (v := (-1)) (by decide) dX11_heap_14 ?_
    refine r_icmpeq (x := v1) (y := (-1)) (tgt := 35) (by decide) dX11_heap_15 (fun hc => ?_) (fun hc => ?_)
    · replace hf := hf.1 hc
      exact r_sub [0, 1] rfl (b_X11_heap_35 hf)
    · replace hf := hf.2 hc
      refine r_aload_n (j := 0) rfl rfl dX11_heap_18 ?_
      obtain ⟨fs_x28, x28, ha_x28, hv_x28, hf⟩ := hf
      refine r_get (Cn := RX11) (Tt := TX11) (N := 12) (n := 5) rfl uw_X11 (Nat.le_of_ble_eq_true rfl) wd_1_178 ha_x28 hv_x28 dX11_heap_19 ?_
      refine r_iload_n (j := 1) rfl rfl dX11_heap_22 ?_
      obtain ⟨b29, hb_b29, hf⟩ := hf
      subst hb_b29
      try unfold C_X8_boardAt at hf
      obtain ⟨⟨fs_r31, ha_r31⟩, hf⟩ := hf
      refine r_invVR (t := 8) (As := [aI v1]) (dz := d) (mz := 0) (sz := 0) rfl wd_4_151 wd_4_152 wd_4_153 cf_X8_boardAt (Nat.le_refl _) (Nat.zero_le _) (Nat.zero_le _) (cat_ok (Nat.le_of_ble_eq_true rfl)) rfl rfl ha_r31 dX11_heap_23 hf (fun r31 σ30 hk => ?_)
      replace hf := hk
      clear hk
      refine r_ifnonnull (o := r31) (tgt := 35) (by decide) dX11_heap_26 (fun b32 hc => ?_) (fun hc => ?_)
      · replace hf := hf.1 b32 hc
        subst hc
        exact r_sub [0, 1] rfl (b_X11_heap_35 hf)
      · replace hf := hf.2 hc
        subst hc
        refine r_aload_n (j := 0) rfl rfl dX11_heap_29 ?_
        refine r_iconst (v := 1) (by decide) dX11_heap_30 ?_
        try unfold C_X11_refuse at hf
        obtain ⟨⟨fs_r34, ha_r34⟩, hf⟩ := hf
        refine r_invVI (t := 11) (As := [aI 1]) (dz := d) (mz := 0) (sz := 0) rfl wd_1_222 wd_1_224 wd_p_1 cf_X11_refuse (Nat.le_refl _) (Nat.zero_le _) (Nat.zero_le _) (cat_ok (Nat.le_of_ble_eq_true rfl)) rfl rfl ha_r34 dX11_heap_31 hf (fun r34 σ33 hk => ?_)
        replace hf := hk
        clear hk
        exact r_ireturn rfl dX11_heap_34 rfl ⟨_, rfl, hf⟩
  · replace hf := hf.2 hc
    subst hc
    refine r_aload_n (j := 0) rfl rfl dX11_heap_7 ?_
    refine r_iconst (v := 1) (by decide) dX11_heap_8 ?_
    try unfold C_X11_refuse at hf
    obtain ⟨⟨fs_r36, ha_r36⟩, hf⟩ := hf
    refine r_invVI (t := 11) (As := [aI 1]) (dz := d) (mz := 0) (sz := 0) rfl wd_1_222 wd_1_224 wd_p_1 cf_X11_refuse (Nat.le_refl _) (Nat.zero_le _) (Nat.zero_le _) (cat_ok (Nat.le_of_ble_eq_true rfl)) rfl rfl ha_r36 dX11_heap_9 hf (fun r36 σ35 hk => ?_)
    replace hf := hk
    clear hk
    exact r_ireturn rfl dX11_heap_12 rfl ⟨_, rfl, hf⟩
theorem m_X11_heap {l : Launch} {G : GG} {d : Nat} {v0 : Nat} {v1 : Int32} {σ : Hp} {K : Int32 → Hp → Prop} (hr : rv σ v0 11) (hf : F_X11_heap l G d v0 v1 σ K) : C_X11_heap l G (d + 1) v0 v1 σ K := ⟨hr, Sp.of (by decide) (Nat.le_of_ble_eq_true rfl) (b_X11_heap_0 hf) rfl⟩
def F_X11_byAcross (l : Launch) (G : GG) (d : Nat) (v0 : Nat) (σ : Hp) (K : Int32 → Hp → Prop) : Prop :=
  fR σ v0 11 5 fun x1 =>
  (∀ b2, x1 = some b2 →
    fR σ v0 11 5 fun x3 =>
    fN σ v0 11 7 fun x4 =>
    fI σ x4 1 2 fun x5 =>
    ∃ b6, x3 = some b6 ∧
    C_X8_heldByAcross l G d b6 x5 σ fun r8 σ7 =>
    C_X11_accept l G d v0 r8 σ7 fun r10 σ9 =>
    K r10 σ9) ∧
  (x1 = none →
    C_X11_refuse l G d v0 1 σ fun r12 σ11 =>
    K r12 σ11)
set_option maxRecDepth 100000 in
set_option maxHeartbeats 4000000 in
theorem b_X11_byAcross_0 {l : Launch} {G : GG} {d : Nat} {v0 : Nat} {σ : Hp} {K : Int32 → Hp → Prop} (hf : F_X11_byAcross l G d v0 σ K) : Wd l G (d + 1) "CoinsLaid" yX11_byAcross cX11_byAcross 1 (some FieldType.int) 0 [(0, aR (some v0))] [] σ 0 0 (xM (QI K)) := by
  unfold F_X11_byAcross at hf
  refine r_aload_n (j := 0) rfl rfl dX11_byAcross_0 ?_
  obtain ⟨fs_x1, x1, ha_x1, hv_x1, hf⟩ := hf
  refine r_get (Cn := RX11) (Tt := TX11) (N := 12) (n := 5) rfl uw_X11 (Nat.le_of_ble_eq_true rfl) wd_1_178 ha_x1 hv_x1 dX11_byAcross_1 ?_
  refine r_ifnonnull (o := x1) (tgt := 13) (by decide) dX11_byAcross_4 (fun b2 hc => ?_) (fun hc => ?_)
  · replace hf := hf.1 b2 hc
    subst hc
    refine r_aload_n (j := 0) rfl rfl dX11_byAcross_13 ?_
    refine r_aload_n (j := 0) rfl rfl dX11_byAcross_14 ?_
    obtain ⟨fs_x3, x3, ha_x3, hv_x3, hf⟩ := hf
    refine r_get (Cn := RX11) (Tt := TX11) (N := 12) (n := 5) rfl uw_X11 (Nat.le_of_ble_eq_true rfl) wd_1_178 ha_x3 hv_x3 dX11_byAcross_15 ?_
    refine r_aload_n (j := 0) rfl rfl dX11_byAcross_18 ?_
    obtain ⟨fs_x4, x4, ha_x4, hv_x4, hf⟩ := hf
    refine r_get (Cn := RX11) (Tt := TX11) (N := 12) (n := 7) rfl uw_X11 (Nat.le_of_ble_eq_true rfl) wd_1_180 ha_x4 hv_x4 dX11_byAcross_19 ?_
    obtain ⟨fs_x5, x5, ha_x5, hv_x5, hf⟩ := hf
    refine r_get (Cn := RX1) (Tt := TX1) (N := 4) (n := 2) rfl uw_X1 (Nat.le_of_ble_eq_true rfl) wd_1_97 ha_x5 hv_x5 dX11_byAcross_22 ?_
    obtain ⟨b6, hb_b6, hf⟩ := hf
    subst hb_b6
    try unfold C_X8_heldByAcross at hf
    obtain ⟨⟨fs_r8, ha_r8⟩, hf⟩ := hf
    refine r_invVI (t := 8) (As := [aI x5]) (dz := d) (mz := 0) (sz := 0) rfl wd_5_90 wd_5_91 wd_5_92 cf_X8_heldByAcross (Nat.le_refl _) (Nat.zero_le _) (Nat.zero_le _) (cat_ok (Nat.le_of_ble_eq_true rfl)) rfl rfl ha_r8 dX11_byAcross_25 hf (fun r8 σ7 hk => ?_)
    replace hf := hk
    clear hk
    try unfold C_X11_accept at hf
    obtain ⟨⟨fs_r10, ha_r10⟩, hf⟩ := hf
    refine r_invVI (t := 11) (As := [aI r8]) (dz := d) (mz := 0) (sz := 0) rfl wd_4_118 wd_4_120 wd_p_30 cf_X11_accept (Nat.le_refl _) (Nat.zero_le _) (Nat.zero_le _) (cat_ok (Nat.le_of_ble_eq_true rfl)) rfl rfl ha_r10 dX11_byAcross_28 hf (fun r10 σ9 hk => ?_)
    replace hf := hk
    clear hk
    exact r_ireturn rfl dX11_byAcross_31 rfl ⟨_, rfl, hf⟩
  · replace hf := hf.2 hc
    subst hc
    refine r_aload_n (j := 0) rfl rfl dX11_byAcross_7 ?_
    refine r_iconst (v := 1) (by decide) dX11_byAcross_8 ?_
    try unfold C_X11_refuse at hf
    obtain ⟨⟨fs_r12, ha_r12⟩, hf⟩ := hf
    refine r_invVI (t := 11) (As := [aI 1]) (dz := d) (mz := 0) (sz := 0) rfl wd_1_222 wd_1_224 wd_p_1 cf_X11_refuse (Nat.le_refl _) (Nat.zero_le _) (Nat.zero_le _) (cat_ok (Nat.le_of_ble_eq_true rfl)) rfl rfl ha_r12 dX11_byAcross_9 hf (fun r12 σ11 hk => ?_)
    replace hf := hk
    clear hk
    exact r_ireturn rfl dX11_byAcross_12 rfl ⟨_, rfl, hf⟩
theorem m_X11_byAcross {l : Launch} {G : GG} {d : Nat} {v0 : Nat} {σ : Hp} {K : Int32 → Hp → Prop} (hr : rv σ v0 11) (hf : F_X11_byAcross l G d v0 σ K) : C_X11_byAcross l G (d + 1) v0 σ K := ⟨hr, Sp.of (by decide) (Nat.le_of_ble_eq_true rfl) (b_X11_byAcross_0 hf) rfl⟩
def F_X11_half_54 (l : Launch) (G : GG) (d : Nat) (s0 : Nat) (s1 : Bool) (σ : Hp) (K : Int32 → Hp → Prop) : Prop :=
  C_X11_accept l G d s0 (bi s1) σ fun r2 σ1 =>
  K r2 σ1
set_option maxRecDepth 100000 in
set_option maxHeartbeats 4000000 in
theorem b_X11_half_54 {l : Launch} {G : GG} {d : Nat} {s0 : Nat} {s1 : Bool} {σ : Hp} {K : Int32 → Hp → Prop} (hf : F_X11_half_54 l G d s0 s1 σ K) : Wd l G (d + 1) "CoinsLaid" yX11_half cX11_half 3 (some FieldType.int) 54 [] [aI (bi s1), aR (some s0)] σ 0 0 (xM (QI K)) := by
  unfold F_X11_half_54 at hf
  try unfold C_X11_accept at hf
  obtain ⟨⟨fs_r2, ha_r2⟩, hf⟩ := hf
  refine r_invVI (t := 11) (As := [aI (bi s1)]) (dz := d) (mz := 0) (sz := 0) rfl wd_4_118 wd_4_120 wd_p_30 cf_X11_accept (Nat.le_refl _) (Nat.zero_le _) (Nat.zero_le _) (cat_ok (Nat.le_of_ble_eq_true rfl)) rfl rfl ha_r2 dX11_half_54 hf (fun r2 σ1 hk => ?_)
  replace hf := hk
  clear hk
  exact r_ireturn rfl dX11_half_57 rfl ⟨_, rfl, hf⟩
def F_X11_half_19 (l : Launch) (G : GG) (d : Nat) (v0 : Nat) (s0 : Option Nat) (σ : Hp) (K : Int32 → Hp → Prop) : Prop :=
  (∀ b3, s0 = some b3 →
    fR σ v0 11 5 fun x4 =>
    fN σ v0 11 7 fun x5 =>
    fI σ x5 1 2 fun x6 =>
    ∃ b7, x4 = some b7 ∧
    C_X8_isSameTurned l G d b7 b3 x6 σ fun r9 σ8 =>
    (r9 = false →
      F_X11_half_54 l G d v0 false σ8 K) ∧
    (r9 = true →
      F_X11_half_54 l G d v0 true σ8 K)) ∧
  (s0 = none →
    C_X11_refuse l G d v0 1 σ fun r11 σ10 =>
    K r11 σ10)
set_option maxRecDepth 100000 in
set_option maxHeartbeats 4000000 in
theorem b_X11_half_19 {l : Launch} {G : GG} {d : Nat} {v0 : Nat} {s0 : Option Nat} {σ : Hp} {K : Int32 → Hp → Prop} (hf : F_X11_half_19 l G d v0 s0 σ K) : Wd l G (d + 1) "CoinsLaid" yX11_half cX11_half 3 (some FieldType.int) 19 [(0, aR (some v0))] [aR s0] σ 0 0 (xM (QI K)) := by
  unfold F_X11_half_19 at hf
  refine r_astore_n (L' := [(2, aR s0), (0, aR (some v0))]) rfl rfl (Nat.le_of_ble_eq_true rfl) dX11_half_19 ?_
  refine r_aload_n (j := 0) rfl rfl dX11_half_20 ?_
  refine r_ifnonnull (o := s0) (tgt := 30) (by decide) dX11_half_21 (fun b3 hc => ?_) (fun hc => ?_)
  · replace hf := hf.1 b3 hc
    subst hc
    refine r_aload_n (j := 1) rfl rfl dX11_half_30 ?_
    refine r_aload_n (j := 1) rfl rfl dX11_half_31 ?_
    obtain ⟨fs_x4, x4, ha_x4, hv_x4, hf⟩ := hf
    refine r_get (Cn := RX11) (Tt := TX11) (N := 12) (n := 5) rfl uw_X11 (Nat.le_of_ble_eq_true rfl) wd_1_178 ha_x4 hv_x4 dX11_half_32 ?_
    refine r_aload_n (j := 0) rfl rfl dX11_half_35 ?_
    refine r_aload_n (j := 1) rfl rfl dX11_half_36 ?_
    obtain ⟨fs_x5, x5, ha_x5, hv_x5, hf⟩ := hf
    refine r_get (Cn := RX11) (Tt := TX11) (N := 12) (n := 7) rfl uw_X11 (Nat.le_of_ble_eq_true rfl) wd_1_180 ha_x5 hv_x5 dX11_half_37 ?_
    obtain ⟨fs_x6, x6, ha_x6, hv_x6, hf⟩ := hf
    refine r_get (Cn := RX1) (Tt := TX1) (N := 4) (n := 2) rfl uw_X1 (Nat.le_of_ble_eq_true rfl) wd_1_97 ha_x6 hv_x6 dX11_half_40 ?_
    obtain ⟨b7, hb_b7, hf⟩ := hf
    subst hb_b7
    try unfold C_X8_isSameTurned at hf
    obtain ⟨⟨fs_r9, ha_r9⟩, hf⟩ := hf
    refine r_invVZ (t := 8) (As := [aR (some b3), aI x6]) (dz := d) (mz := 0) (sz := 0) rfl wd_5_112 wd_5_100 wd_5_101 cf_X8_isSameTurned (Nat.le_refl _) (Nat.zero_le _) (Nat.zero_le _) (cat_ok (Nat.le_of_ble_eq_true rfl)) rfl rfl ha_r9 dX11_half_43 hf (fun r9 σ8 hk => ?_)
    replace hf := hk
    clear hk
    refine r_ifeqZ (b := r9) (tgt := 53) (by decide) dX11_half_46 (fun hc => ?_) (fun hc => ?_)
    · replace hf := hf.1 hc
      refine r_iconst (v := 0) (by decide) dX11_half_53 ?_
      exact r_sub [] rfl (b_X11_half_54 hf)
    · replace hf := hf.2 hc
      refine r_iconst (v := 1) (by decide) dX11_half_49 ?_
      refine r_goto (tgt := 54) (by decide) dX11_half_50 ?_
      exact r_sub [] rfl (b_X11_half_54 hf)
  · replace hf := hf.2 hc
    subst hc
    refine r_aload_n (j := 1) rfl rfl dX11_half_24 ?_
    refine r_iconst (v := 1) (by decide) dX11_half_25 ?_
    try unfold C_X11_refuse at hf
    obtain ⟨⟨fs_r11, ha_r11⟩, hf⟩ := hf
    refine r_invVI (t := 11) (As := [aI 1]) (dz := d) (mz := 0) (sz := 0) rfl wd_1_222 wd_1_224 wd_p_1 cf_X11_refuse (Nat.le_refl _) (Nat.zero_le _) (Nat.zero_le _) (cat_ok (Nat.le_of_ble_eq_true rfl)) rfl rfl ha_r11 dX11_half_26 hf (fun r11 σ10 hk => ?_)
    replace hf := hk
    clear hk
    exact r_ireturn rfl dX11_half_29 rfl ⟨_, rfl, hf⟩
def F_X11_half (l : Launch) (G : GG) (d : Nat) (v0 : Nat) (v1 : Int32) (σ : Hp) (K : Int32 → Hp → Prop) : Prop :=
  fR σ v0 11 5 fun x12 =>
  (∀ b13, x12 = some b13 →
    fR σ v0 11 5 fun x14 =>
    ∃ b15, x14 = some b15 ∧
    C_X8_boardAt l G d b15 v1 σ fun r17 σ16 =>
    F_X11_half_19 l G d v0 r17 σ16 K) ∧
  (x12 = none →
    F_X11_half_19 l G d v0 none σ K)
set_option maxRecDepth 100000 in
set_option maxHeartbeats 4000000 in
theorem b_X11_half_0 {l : Launch} {G : GG} {d : Nat} {v0 : Nat} {v1 : Int32} {σ : Hp} {K : Int32 → Hp → Prop} (hf : F_X11_half l G d v0 v1 σ K) : Wd l G (d + 1) "CoinsLaid" yX11_half cX11_half 3 (some FieldType.int) 0 [(0, aR (some v0)), (1, aI v1)] [] σ 0 0 (xM (QI K)) := by
  unfold F_X11_half at hf
  refine r_aload_n (j := 0) rfl rfl dX11_half_0 ?_
  obtain ⟨fs_x12, x12, ha_x12, hv_x12, hf⟩ := hf
  refine r_get (Cn := RX11) (Tt := TX11) (N := 12) (n := 5) rfl uw_X11 (Nat.le_of_ble_eq_true rfl) wd_1_178 ha_x12 hv_x12 dX11_half_1 ?_
  refine r_ifnonnull (o := x12) (tgt := 11) (by decide) dX11_half_4 (fun b13 hc => ?_) (fun hc => ?_)
  · replace hf := hf.1 b13 hc
    subst hc
    refine r_aload_n (j := 0) rfl rfl dX11_half_11 ?_
    obtain ⟨fs_x14, x14, ha_x14, hv_x14, hf⟩ := hf
    refine r_get (Cn := RX11) (Tt := TX11) (N := 12) (n := 5) rfl uw_X11 (Nat.le_of_ble_eq_true rfl) wd_1_178 ha_x14 hv_x14 dX11_half_12 ?_
    refine r_iload_n (j := 1) rfl rfl dX11_half_15 ?_
    obtain ⟨b15, hb_b15, hf⟩ := hf
    subst hb_b15
    try unfold C_X8_boardAt at hf
    obtain ⟨⟨fs_r17, ha_r17⟩, hf⟩ := hf
    refine r_invVR (t := 8) (As := [aI v1]) (dz := d) (mz := 0) (sz := 0) rfl wd_4_151 wd_4_152 wd_4_153 cf_X8_boardAt (Nat.le_refl _) (Nat.zero_le _) (Nat.zero_le _) (cat_ok (Nat.le_of_ble_eq_true rfl)) rfl rfl ha_r17 dX11_half_16 hf (fun r17 σ16 hk => ?_)
    replace hf := hk
    clear hk
    exact r_sub [0] rfl (b_X11_half_19 hf)
  · replace hf := hf.2 hc
    subst hc
    refine r_null dX11_half_7 ?_
    refine r_goto (tgt := 19) (by decide) dX11_half_8 ?_
    exact r_sub [0] rfl (b_X11_half_19 hf)
theorem m_X11_half {l : Launch} {G : GG} {d : Nat} {v0 : Nat} {v1 : Int32} {σ : Hp} {K : Int32 → Hp → Prop} (hr : rv σ v0 11) (hf : F_X11_half l G d v0 v1 σ K) : C_X11_half l G (d + 1) v0 v1 σ K := ⟨hr, Sp.of (by decide) (Nat.le_of_ble_eq_true rfl) (b_X11_half_0 hf) rfl⟩
def F_X11_spoils (l : Launch) (G : GG) (d : Nat) (v0 : Nat) (v1 : Int32) (σ : Hp) (K : Int32 → Hp → Prop) : Prop :=
  C_X11_layNumbered l G d v0 v1 σ fun r2 σ1 =>
  (∀ b3, r2 = some b3 →
    fN σ1 v0 11 7 fun x4 =>
    fI σ1 x4 1 2 fun x5 =>
    fN σ1 v0 11 7 fun x6 =>
    C_X1_next l G d x6 σ1 fun r8 σ7 =>
    C_X2_mayBe l G d b3 x5 r8 σ7 fun r10 σ9 =>
    (r10 = true →
      fR σ9 v0 11 5 fun x11 =>
      fN σ9 v0 11 7 fun x12 =>
      fI σ9 x12 1 2 fun x13 =>
      ∃ b14, x11 = some b14 ∧
      C_X8_countSpoiled l G d b14 x13 b3 σ9 fun r16 σ15 =>
      C_X11_accept l G d v0 r16 σ15 fun r18 σ17 =>
      K r18 σ17) ∧
    (r10 = false →
      C_X11_refuse l G d v0 5 σ9 fun r20 σ19 =>
      K r20 σ19)) ∧
  (r2 = none →
    C_X11_refuse l G d v0 1 σ1 fun r22 σ21 =>
    K r22 σ21)
set_option maxRecDepth 100000 in
set_option maxHeartbeats 4000000 in
theorem b_X11_spoils_0 {l : Launch} {G : GG} {d : Nat} {v0 : Nat} {v1 : Int32} {σ : Hp} {K : Int32 → Hp → Prop} (hf : F_X11_spoils l G d v0 v1 σ K) : Wd l G (d + 1) "CoinsLaid" yX11_spoils cX11_spoils 3 (some FieldType.int) 0 [(0, aR (some v0)), (1, aI v1)] [] σ 0 0 (xM (QI K)) := by
  unfold F_X11_spoils at hf
  refine r_aload_n (j := 0) rfl rfl dX11_spoils_0 ?_
  refine r_iload_n (j := 1) rfl rfl dX11_spoils_1 ?_
  try unfold C_X11_layNumbered at hf
  obtain ⟨⟨fs_r2, ha_r2⟩, hf⟩ := hf
  refine r_invVR (t := 11) (As := [aI v1]) (dz := d) (mz := 0) (sz := 0) rfl wd_4_134 wd_4_136 wd_p_31 cf_X11_layNumbered (Nat.le_refl _) (Nat.zero_le _) (Nat.zero_le _) (cat_ok (Nat.le_of_ble_eq_true rfl)) rfl rfl ha_r2 dX11_spoils_2 hf (fun r2 σ1 hk => ?_)
  replace hf := hk
  clear hk
  refine r_astore_n (L' := [(2, aR r2), (0, aR (some v0)), (1, aI v1)]) rfl rfl (Nat.le_of_ble_eq_true rfl) dX11_spoils_5 ?_
  refine r_aload_n (j := 0) rfl rfl dX11_spoils_6 ?_
  refine r_ifnonnull (o := r2) (tgt := 16) (by decide) dX11_spoils_7 (fun b3 hc => ?_) (fun hc => ?_)
  · replace hf := hf.1 b3 hc
    subst hc
    refine r_aload_n (j := 0) rfl rfl dX11_spoils_16 ?_
    refine r_aload_n (j := 1) rfl rfl dX11_spoils_17 ?_
    obtain ⟨fs_x4, x4, ha_x4, hv_x4, hf⟩ := hf
    refine r_get (Cn := RX11) (Tt := TX11) (N := 12) (n := 7) rfl uw_X11 (Nat.le_of_ble_eq_true rfl) wd_1_180 ha_x4 hv_x4 dX11_spoils_18 ?_
    obtain ⟨fs_x5, x5, ha_x5, hv_x5, hf⟩ := hf
    refine r_get (Cn := RX1) (Tt := TX1) (N := 4) (n := 2) rfl uw_X1 (Nat.le_of_ble_eq_true rfl) wd_1_97 ha_x5 hv_x5 dX11_spoils_21 ?_
    refine r_aload_n (j := 1) rfl rfl dX11_spoils_24 ?_
    obtain ⟨fs_x6, x6, ha_x6, hv_x6, hf⟩ := hf
    refine r_get (Cn := RX11) (Tt := TX11) (N := 12) (n := 7) rfl uw_X11 (Nat.le_of_ble_eq_true rfl) wd_1_180 ha_x6 hv_x6 dX11_spoils_25 ?_
    try unfold C_X1_next at hf
    obtain ⟨⟨fs_r8, ha_r8⟩, hf⟩ := hf
    refine r_invVI (t := 1) (As := []) (dz := d) (mz := 0) (sz := 0) rfl wd_4_170 wd_4_75 wd_4_76 cf_X1_next (Nat.le_refl _) (Nat.zero_le _) (Nat.zero_le _) (cat_ok (Nat.le_of_ble_eq_true rfl)) rfl rfl ha_r8 dX11_spoils_28 hf (fun r8 σ7 hk => ?_)
    replace hf := hk
    clear hk
    try unfold C_X2_mayBe at hf
    obtain ⟨⟨fs_r10, ha_r10⟩, hf⟩ := hf
    refine r_invVZ (t := 2) (As := [aI x5, aI r8]) (dz := d) (mz := 0) (sz := 0) rfl wd_4_171 wd_4_79 wd_4_80 cf_X2_mayBe (Nat.le_refl _) (Nat.zero_le _) (Nat.zero_le _) (cat_ok (Nat.le_of_ble_eq_true rfl)) rfl rfl ha_r10 dX11_spoils_31 hf (fun r10 σ9 hk => ?_)
    replace hf := hk
    clear hk
    refine r_ifneZ (b := r10) (tgt := 43) (by decide) dX11_spoils_34 (fun hc => ?_) (fun hc => ?_)
    · replace hf := hf.1 hc
      refine r_aload_n (j := 1) rfl rfl dX11_spoils_43 ?_
      refine r_aload_n (j := 1) rfl rfl dX11_spoils_44 ?_
      obtain ⟨fs_x11, x11, ha_x11, hv_x11, hf⟩ := hf
      refine r_get (Cn := RX11) (Tt := TX11) (N := 12) (n := 5) rfl uw_X11 (Nat.le_of_ble_eq_true rfl) wd_1_178 ha_x11 hv_x11 dX11_spoils_45 ?_
      refine r_aload_n (j := 1) rfl rfl dX11_spoils_48 ?_
      obtain ⟨fs_x12, x12, ha_x12, hv_x12, hf⟩ := hf
      refine r_get (Cn := RX11) (Tt := TX11) (N := 12) (n := 7) rfl uw_X11 (Nat.le_of_ble_eq_true rfl) wd_1_180 ha_x12 hv_x12 dX11_spoils_49 ?_
      obtain ⟨fs_x13, x13, ha_x13, hv_x13, hf⟩ := hf
      refine r_get (Cn := RX1) (Tt := TX1) (N := 4) (n := 2) rfl uw_X1 (Nat.le_of_ble_eq_true rfl) wd_1_97 ha_x13 hv_x13 dX11_spoils_52 ?_
      refine r_aload_n (j := 0) rfl rfl dX11_spoils_55 ?_
      obtain ⟨b14, hb_b14, hf⟩ := hf
      subst hb_b14
      try unfold C_X8_countSpoiled at hf
      obtain ⟨⟨fs_r16, ha_r16⟩, hf⟩ := hf
      refine r_invVI (t := 8) (As := [aI x13, aR (some b3)]) (dz := d) (mz := 0) (sz := 0) rfl wd_5_117 wd_5_118 wd_5_119 cf_X8_countSpoiled (Nat.le_refl _) (Nat.zero_le _) (Nat.zero_le _) (cat_ok (Nat.le_of_ble_eq_true rfl)) rfl rfl ha_r16 dX11_spoils_56 hf (fun r16 σ15 hk => ?_)
      replace hf := hk
      clear hk
      try unfold C_X11_accept at hf
      obtain ⟨⟨fs_r18, ha_r18⟩, hf⟩ := hf
      refine r_invVI (t := 11) (As := [aI r16]) (dz := d) (mz := 0) (sz := 0) rfl wd_4_118 wd_4_120 wd_p_30 cf_X11_accept (Nat.le_refl _) (Nat.zero_le _) (Nat.zero_le _) (cat_ok (Nat.le_of_ble_eq_true rfl)) rfl rfl ha_r18 dX11_spoils_59 hf (fun r18 σ17 hk => ?_)
      replace hf := hk
      clear hk
      exact r_ireturn rfl dX11_spoils_62 rfl ⟨_, rfl, hf⟩
    · replace hf := hf.2 hc
      refine r_aload_n (j := 1) rfl rfl dX11_spoils_37 ?_
      refine r_iconst (v := 5) (by decide) dX11_spoils_38 ?_
      try unfold C_X11_refuse at hf
      obtain ⟨⟨fs_r20, ha_r20⟩, hf⟩ := hf
      refine r_invVI (t := 11) (As := [aI 5]) (dz := d) (mz := 0) (sz := 0) rfl wd_1_222 wd_1_224 wd_p_1 cf_X11_refuse (Nat.le_refl _) (Nat.zero_le _) (Nat.zero_le _) (cat_ok (Nat.le_of_ble_eq_true rfl)) rfl rfl ha_r20 dX11_spoils_39 hf (fun r20 σ19 hk => ?_)
      replace hf := hk
      clear hk
      exact r_ireturn rfl dX11_spoils_42 rfl ⟨_, rfl, hf⟩
  · replace hf := hf.2 hc
    subst hc
    refine r_aload_n (j := 1) rfl rfl dX11_spoils_10 ?_
    refine r_iconst (v := 1) (by decide) dX11_spoils_11 ?_
    try unfold C_X11_refuse at hf
    obtain ⟨⟨fs_r22, ha_r22⟩, hf⟩ := hf
    refine r_invVI (t := 11) (As := [aI 1]) (dz := d) (mz := 0) (sz := 0) rfl wd_1_222 wd_1_224 wd_p_1 cf_X11_refuse (Nat.le_refl _) (Nat.zero_le _) (Nat.zero_le _) (cat_ok (Nat.le_of_ble_eq_true rfl)) rfl rfl ha_r22 dX11_spoils_12 hf (fun r22 σ21 hk => ?_)
    replace hf := hk
    clear hk
    exact r_ireturn rfl dX11_spoils_15 rfl ⟨_, rfl, hf⟩
theorem m_X11_spoils {l : Launch} {G : GG} {d : Nat} {v0 : Nat} {v1 : Int32} {σ : Hp} {K : Int32 → Hp → Prop} (hr : rv σ v0 11) (hf : F_X11_spoils l G d v0 v1 σ K) : C_X11_spoils l G (d + 1) v0 v1 σ K := ⟨hr, Sp.of (by decide) (Nat.le_of_ble_eq_true rfl) (b_X11_spoils_0 hf) rfl⟩
def F_X11_open_22 (l : Launch) (G : GG) (d : Nat) (v0 : Nat) (σ : Hp) (K : Int32 → Hp → Prop) : Prop :=
  C_X11_refuse l G d v0 1 σ fun r2 σ1 =>
  K r2 σ1
set_option maxRecDepth 100000 in
set_option maxHeartbeats 4000000 in
theorem b_X11_open_22 {l : Launch} {G : GG} {d : Nat} {v0 : Nat} {σ : Hp} {K : Int32 → Hp → Prop} (hf : F_X11_open_22 l G d v0 σ K) : Wd l G (d + 1) "CoinsLaid" yX11_open cX11_open 2 (some FieldType.int) 22 [(0, aR (some v0))] [] σ 0 0 (xM (QI K)) := by
  unfold F_X11_open_22 at hf
  refine r_aload_n (j := 0) rfl rfl dX11_open_22 ?_
  refine r_iconst (v := 1) (by decide) dX11_open_23 ?_
  try unfold C_X11_refuse at hf
  obtain ⟨⟨fs_r2, ha_r2⟩, hf⟩ := hf
  refine r_invVI (t := 11) (As := [aI 1]) (dz := d) (mz := 0) (sz := 0) rfl wd_1_222 wd_1_224 wd_p_1 cf_X11_refuse (Nat.le_refl _) (Nat.zero_le _) (Nat.zero_le _) (cat_ok (Nat.le_of_ble_eq_true rfl)) rfl rfl ha_r2 dX11_open_24 hf (fun r2 σ1 hk => ?_)
  replace hf := hk
  clear hk
  exact r_ireturn rfl dX11_open_27 rfl ⟨_, rfl, hf⟩
def F_X11_open (l : Launch) (G : GG) (d : Nat) (v0 : Nat) (v1 : Int32) (σ : Hp) (K : Int32 → Hp → Prop) : Prop :=
  fR σ v0 11 5 fun x3 =>
  (x3 = none →
    F_X11_open_22 l G d v0 σ K) ∧
  (∀ b4, x3 = some b4 →
    ((v1 : Int32) < 0 →
      F_X11_open_22 l G d v0 σ K) ∧
    (¬ (v1 : Int32) < 0 →
      fR σ v0 11 5 fun x5 =>
      ∃ b6, x5 = some b6 ∧
      fI σ b6 8 5 fun x7 =>
      ((v1 : Int32) < (x7 : Int32) →
        fR σ v0 11 5 fun x8 =>
        fN σ v0 11 7 fun x9 =>
        fI σ x9 1 2 fun x10 =>
        ∃ b11, x8 = some b11 ∧
        C_X8_countOpen l G d b11 x10 v1 σ fun r13 σ12 =>
        C_X11_accept l G d v0 r13 σ12 fun r15 σ14 =>
        K r15 σ14) ∧
      (¬ (v1 : Int32) < (x7 : Int32) →
        F_X11_open_22 l G d v0 σ K)))
set_option maxRecDepth 100000 in
set_option maxHeartbeats 4000000 in
theorem b_X11_open_0 {l : Launch} {G : GG} {d : Nat} {v0 : Nat} {v1 : Int32} {σ : Hp} {K : Int32 → Hp → Prop} (hf : F_X11_open l G d v0 v1 σ K) : Wd l G (d + 1) "CoinsLaid" yX11_open cX11_open 2 (some FieldType.int) 0 [(0, aR (some v0)), (1, aI v1)] [] σ 0 0 (xM (QI K)) := by
  unfold F_X11_open at hf
  refine r_aload_n (j := 0) rfl rfl dX11_open_0 ?_
  obtain ⟨fs_x3, x3, ha_x3, hv_x3, hf⟩ := hf
  refine r_get (Cn := RX11) (Tt := TX11) (N := 12) (n := 5) rfl uw_X11 (Nat.le_of_ble_eq_true rfl) wd_1_178 ha_x3 hv_x3 dX11_open_1 ?_
  refine r_ifnull (o := x3) (tgt := 22) (by decide) dX11_open_4 (fun hc => ?_) (fun b4 hc => ?_)
  · replace hf := hf.1 hc
    subst hc
    exact r_sub [0] rfl (b_X11_open_22 hf)
  · replace hf := hf.2 b4 hc
    subst hc
    refine r_iload_n (j := 1) rfl rfl dX11_open_7 ?_
    refine r_iflt (x := v1) (tgt := 22) (by decide) dX11_open_8 (fun hc => ?_) (fun hc => ?_)
    · replace hf := hf.1 hc
      exact r_sub [0] rfl (b_X11_open_22 hf)
    · replace hf := hf.2 hc
      refine r_iload_n (j := 1) rfl rfl dX11_open_11 ?_
      refine r_aload_n (j := 0) rfl rfl dX11_open_12 ?_
      obtain ⟨fs_x5, x5, ha_x5, hv_x5, hf⟩ := hf
      refine r_get (Cn := RX11) (Tt := TX11) (N := 12) (n := 5) rfl uw_X11 (Nat.le_of_ble_eq_true rfl) wd_1_178 ha_x5 hv_x5 dX11_open_13 ?_
      obtain ⟨b6, hb_b6, hf⟩ := hf
      subst hb_b6
      obtain ⟨fs_x7, x7, ha_x7, hv_x7, hf⟩ := hf
      refine r_get (Cn := RX8) (Tt := TX8) (N := 9) (n := 5) rfl uw_X8 (Nat.le_of_ble_eq_true rfl) wd_2_71 ha_x7 hv_x7 dX11_open_16 ?_
      refine r_icmplt (x := v1) (y := x7) (tgt := 28) (by decide) dX11_open_19 (fun hc => ?_) (fun hc => ?_)
      · replace hf := hf.1 hc
        refine r_aload_n (j := 0) rfl rfl dX11_open_28 ?_
        refine r_aload_n (j := 0) rfl rfl dX11_open_29 ?_
        obtain ⟨fs_x8, x8, ha_x8, hv_x8, hf⟩ := hf
        refine r_get (Cn := RX11) (Tt := TX11) (N := 12) (n := 5) rfl uw_X11 (Nat.le_of_ble_eq_true rfl) wd_1_178 ha_x8 hv_x8 dX11_open_30 ?_
        refine r_aload_n (j := 0) rfl rfl dX11_open_33 ?_
        obtain ⟨fs_x9, x9, ha_x9, hv_x9, hf⟩ := hf
        refine r_get (Cn := RX11) (Tt := TX11) (N := 12) (n := 7) rfl uw_X11 (Nat.le_of_ble_eq_true rfl) wd_1_180 ha_x9 hv_x9 dX11_open_34 ?_
        obtain ⟨fs_x10, x10, ha_x10, hv_x10, hf⟩ := hf
        refine r_get (Cn := RX1) (Tt := TX1) (N := 4) (n := 2) rfl uw_X1 (Nat.le_of_ble_eq_true rfl) wd_1_97 ha_x10 hv_x10 dX11_open_37 ?_
        refine r_iload_n (j := 1) rfl rfl dX11_open_40 ?_
        obtain ⟨b11, hb_b11, hf⟩ := hf
        subst hb_b11
        try unfold C_X8_countOpen at hf
        obtain ⟨⟨fs_r13, ha_r13⟩, hf⟩ := hf
        refine r_invVI (t := 8) (As := [aI x10, aI v1]) (dz := d) (mz := 0) (sz := 0) rfl wd_5_125 wd_5_126 wd_5_127 cf_X8_countOpen (Nat.le_refl _) (Nat.zero_le _) (Nat.zero_le _) (cat_ok (Nat.le_of_ble_eq_true rfl)) rfl rfl ha_r13 dX11_open_41 hf (fun r13 σ12 hk => ?_)
        replace hf := hk
        clear hk
        try unfold C_X11_accept at hf
        obtain ⟨⟨fs_r15, ha_r15⟩, hf⟩ := hf
        refine r_invVI (t := 11) (As := [aI r13]) (dz := d) (mz := 0) (sz := 0) rfl wd_4_118 wd_4_120 wd_p_30 cf_X11_accept (Nat.le_refl _) (Nat.zero_le _) (Nat.zero_le _) (cat_ok (Nat.le_of_ble_eq_true rfl)) rfl rfl ha_r15 dX11_open_44 hf (fun r15 σ14 hk => ?_)
        replace hf := hk
        clear hk
        exact r_ireturn rfl dX11_open_47 rfl ⟨_, rfl, hf⟩
      · replace hf := hf.2 hc
        exact r_sub [0] rfl (b_X11_open_22 hf)
theorem m_X11_open {l : Launch} {G : GG} {d : Nat} {v0 : Nat} {v1 : Int32} {σ : Hp} {K : Int32 → Hp → Prop} (hr : rv σ v0 11) (hf : F_X11_open l G d v0 v1 σ K) : C_X11_open l G (d + 1) v0 v1 σ K := ⟨hr, Sp.of (by decide) (Nat.le_of_ble_eq_true rfl) (b_X11_open_0 hf) rfl⟩
def F_X11_elbow (l : Launch) (G : GG) (d : Nat) (v0 : Nat) (σ : Hp) (K : Int32 → Hp → Prop) : Prop :=
  fR σ v0 11 5 fun x1 =>
  (∀ b2, x1 = some b2 →
    fN σ v0 11 6 fun x3 =>
    fN σ v0 11 7 fun x4 =>
    fI σ x4 1 2 fun x5 =>
    fN σ v0 11 7 fun x6 =>
    C_X1_next l G d x6 σ fun r8 σ7 =>
    C_X3_turningSquare l G d x3 x5 r8 σ7 fun r10 σ9 =>
    C_X11_accept l G d v0 r10 σ9 fun r12 σ11 =>
    K r12 σ11) ∧
  (x1 = none →
    C_X11_refuse l G d v0 1 σ fun r14 σ13 =>
    K r14 σ13)
set_option maxRecDepth 100000 in
set_option maxHeartbeats 4000000 in
theorem b_X11_elbow_0 {l : Launch} {G : GG} {d : Nat} {v0 : Nat} {σ : Hp} {K : Int32 → Hp → Prop} (hf : F_X11_elbow l G d v0 σ K) : Wd l G (d + 1) "CoinsLaid" yX11_elbow cX11_elbow 1 (some FieldType.int) 0 [(0, aR (some v0))] [] σ 0 0 (xM (QI K)) := by
  unfold F_X11_elbow at hf
  refine r_aload_n (j := 0) rfl rfl dX11_elbow_0 ?_
  obtain ⟨fs_x1, x1, ha_x1, hv_x1, hf⟩ := hf
  refine r_get (Cn := RX11) (Tt := TX11) (N := 12) (n := 5) rfl uw_X11 (Nat.le_of_ble_eq_true rfl) wd_1_178 ha_x1 hv_x1 dX11_elbow_1 ?_
  refine r_ifnonnull (o := x1) (tgt := 13) (by decide) dX11_elbow_4 (fun b2 hc => ?_) (fun hc => ?_)
  · replace hf := hf.1 b2 hc
    subst hc
    refine r_aload_n (j := 0) rfl rfl dX11_elbow_13 ?_
    refine r_aload_n (j := 0) rfl rfl dX11_elbow_14 ?_
    obtain ⟨fs_x3, x3, ha_x3, hv_x3, hf⟩ := hf
    refine r_get (Cn := RX11) (Tt := TX11) (N := 12) (n := 6) rfl uw_X11 (Nat.le_of_ble_eq_true rfl) wd_1_179 ha_x3 hv_x3 dX11_elbow_15 ?_
    refine r_aload_n (j := 0) rfl rfl dX11_elbow_18 ?_
    obtain ⟨fs_x4, x4, ha_x4, hv_x4, hf⟩ := hf
    refine r_get (Cn := RX11) (Tt := TX11) (N := 12) (n := 7) rfl uw_X11 (Nat.le_of_ble_eq_true rfl) wd_1_180 ha_x4 hv_x4 dX11_elbow_19 ?_
    obtain ⟨fs_x5, x5, ha_x5, hv_x5, hf⟩ := hf
    refine r_get (Cn := RX1) (Tt := TX1) (N := 4) (n := 2) rfl uw_X1 (Nat.le_of_ble_eq_true rfl) wd_1_97 ha_x5 hv_x5 dX11_elbow_22 ?_
    refine r_aload_n (j := 0) rfl rfl dX11_elbow_25 ?_
    obtain ⟨fs_x6, x6, ha_x6, hv_x6, hf⟩ := hf
    refine r_get (Cn := RX11) (Tt := TX11) (N := 12) (n := 7) rfl uw_X11 (Nat.le_of_ble_eq_true rfl) wd_1_180 ha_x6 hv_x6 dX11_elbow_26 ?_
    try unfold C_X1_next at hf
    obtain ⟨⟨fs_r8, ha_r8⟩, hf⟩ := hf
    refine r_invVI (t := 1) (As := []) (dz := d) (mz := 0) (sz := 0) rfl wd_4_170 wd_4_75 wd_4_76 cf_X1_next (Nat.le_refl _) (Nat.zero_le _) (Nat.zero_le _) (cat_ok (Nat.le_of_ble_eq_true rfl)) rfl rfl ha_r8 dX11_elbow_29 hf (fun r8 σ7 hk => ?_)
    replace hf := hk
    clear hk
    try unfold C_X3_turningSquare at hf
    obtain ⟨⟨fs_r10, ha_r10⟩, hf⟩ := hf
    refine r_invVI (t := 3) (As := [aI x5, aI r8]) (dz := d) (mz := 0) (sz := 0) rfl wd_5_133 wd_5_134 wd_5_135 cf_X3_turningSquare (Nat.le_refl _) (Nat.zero_le _) (Nat.zero_le _) (cat_ok (Nat.le_of_ble_eq_true rfl)) rfl rfl ha_r10 dX11_elbow_32 hf (fun r10 σ9 hk => ?_)
    replace hf := hk
    clear hk
    try unfold C_X11_accept at hf
    obtain ⟨⟨fs_r12, ha_r12⟩, hf⟩ := hf
    refine r_invVI (t := 11) (As := [aI r10]) (dz := d) (mz := 0) (sz := 0) rfl wd_4_118 wd_4_120 wd_p_30 cf_X11_accept (Nat.le_refl _) (Nat.zero_le _) (Nat.zero_le _) (cat_ok (Nat.le_of_ble_eq_true rfl)) rfl rfl ha_r12 dX11_elbow_35 hf (fun r12 σ11 hk => ?_)
    replace hf := hk
    clear hk
    exact r_ireturn rfl dX11_elbow_38 rfl ⟨_, rfl, hf⟩
  · replace hf := hf.2 hc
    subst hc
    refine r_aload_n (j := 0) rfl rfl dX11_elbow_7 ?_
    refine r_iconst (v := 1) (by decide) dX11_elbow_8 ?_
    try unfold C_X11_refuse at hf
    obtain ⟨⟨fs_r14, ha_r14⟩, hf⟩ := hf
    refine r_invVI (t := 11) (As := [aI 1]) (dz := d) (mz := 0) (sz := 0) rfl wd_1_222 wd_1_224 wd_p_1 cf_X11_refuse (Nat.le_refl _) (Nat.zero_le _) (Nat.zero_le _) (cat_ok (Nat.le_of_ble_eq_true rfl)) rfl rfl ha_r14 dX11_elbow_9 hf (fun r14 σ13 hk => ?_)
    replace hf := hk
    clear hk
    exact r_ireturn rfl dX11_elbow_12 rfl ⟨_, rfl, hf⟩
theorem m_X11_elbow {l : Launch} {G : GG} {d : Nat} {v0 : Nat} {σ : Hp} {K : Int32 → Hp → Prop} (hr : rv σ v0 11) (hf : F_X11_elbow l G d v0 σ K) : C_X11_elbow l G (d + 1) v0 σ K := ⟨hr, Sp.of (by decide) (Nat.le_of_ble_eq_true rfl) (b_X11_elbow_0 hf) rfl⟩
def F_X11_fewest (l : Launch) (G : GG) (d : Nat) (v0 : Nat) (σ : Hp) (K : Int32 → Hp → Prop) : Prop :=
  C_X11_read l G d v0 1 σ fun r2 σ1 =>
  K r2 σ1
set_option maxRecDepth 100000 in
set_option maxHeartbeats 4000000 in
theorem b_X11_fewest_0 {l : Launch} {G : GG} {d : Nat} {v0 : Nat} {σ : Hp} {K : Int32 → Hp → Prop} (hf : F_X11_fewest l G d v0 σ K) : Wd l G (d + 1) "CoinsLaid" yX11_fewest cX11_fewest 1 (some FieldType.int) 0 [(0, aR (some v0))] [] σ 0 0 (xM (QI K)) := by
  unfold F_X11_fewest at hf
  refine r_aload_n (j := 0) rfl rfl dX11_fewest_0 ?_
  refine r_iconst (v := 1) (by decide) dX11_fewest_1 ?_
  try unfold C_X11_read at hf
  obtain ⟨⟨fs_r2, ha_r2⟩, hf⟩ := hf
  refine r_invVI (t := 11) (As := [aI 1]) (dz := d) (mz := 0) (sz := 0) rfl wd_5_34 wd_5_36 wd_p_38 cf_X11_read (Nat.le_refl _) (Nat.zero_le _) (Nat.zero_le _) (cat_ok (Nat.le_of_ble_eq_true rfl)) rfl rfl ha_r2 dX11_fewest_2 hf (fun r2 σ1 hk => ?_)
  replace hf := hk
  clear hk
  exact r_ireturn rfl dX11_fewest_5 rfl ⟨_, rfl, hf⟩
theorem m_X11_fewest {l : Launch} {G : GG} {d : Nat} {v0 : Nat} {σ : Hp} {K : Int32 → Hp → Prop} (hr : rv σ v0 11) (hf : F_X11_fewest l G d v0 σ K) : C_X11_fewest l G (d + 1) v0 σ K := ⟨hr, Sp.of (by decide) (Nat.le_of_ble_eq_true rfl) (b_X11_fewest_0 hf) rfl⟩
def F_X11_most (l : Launch) (G : GG) (d : Nat) (v0 : Nat) (σ : Hp) (K : Int32 → Hp → Prop) : Prop :=
  C_X11_read l G d v0 2 σ fun r2 σ1 =>
  K r2 σ1
set_option maxRecDepth 100000 in
set_option maxHeartbeats 4000000 in
theorem b_X11_most_0 {l : Launch} {G : GG} {d : Nat} {v0 : Nat} {σ : Hp} {K : Int32 → Hp → Prop} (hf : F_X11_most l G d v0 σ K) : Wd l G (d + 1) "CoinsLaid" yX11_most cX11_most 1 (some FieldType.int) 0 [(0, aR (some v0))] [] σ 0 0 (xM (QI K)) := by
  unfold F_X11_most at hf
  refine r_aload_n (j := 0) rfl rfl dX11_most_0 ?_
  refine r_iconst (v := 2) (by decide) dX11_most_1 ?_
  try unfold C_X11_read at hf
  obtain ⟨⟨fs_r2, ha_r2⟩, hf⟩ := hf
  refine r_invVI (t := 11) (As := [aI 2]) (dz := d) (mz := 0) (sz := 0) rfl wd_5_34 wd_5_36 wd_p_38 cf_X11_read (Nat.le_refl _) (Nat.zero_le _) (Nat.zero_le _) (cat_ok (Nat.le_of_ble_eq_true rfl)) rfl rfl ha_r2 dX11_most_2 hf (fun r2 σ1 hk => ?_)
  replace hf := hk
  clear hk
  exact r_ireturn rfl dX11_most_5 rfl ⟨_, rfl, hf⟩
theorem m_X11_most {l : Launch} {G : GG} {d : Nat} {v0 : Nat} {σ : Hp} {K : Int32 → Hp → Prop} (hr : rv σ v0 11) (hf : F_X11_most l G d v0 σ K) : C_X11_most l G (d + 1) v0 σ K := ⟨hr, Sp.of (by decide) (Nat.le_of_ble_eq_true rfl) (b_X11_most_0 hf) rfl⟩
def F_X11_lot (l : Launch) (G : GG) (d : Nat) (v0 : Nat) (σ : Hp) (K : Int32 → Hp → Prop) : Prop :=
  C_X11_read l G d v0 3 σ fun r2 σ1 =>
  K r2 σ1
set_option maxRecDepth 100000 in
set_option maxHeartbeats 4000000 in
theorem b_X11_lot_0 {l : Launch} {G : GG} {d : Nat} {v0 : Nat} {σ : Hp} {K : Int32 → Hp → Prop} (hf : F_X11_lot l G d v0 σ K) : Wd l G (d + 1) "CoinsLaid" yX11_lot cX11_lot 1 (some FieldType.int) 0 [(0, aR (some v0))] [] σ 0 0 (xM (QI K)) := by
  unfold F_X11_lot at hf
  refine r_aload_n (j := 0) rfl rfl dX11_lot_0 ?_
  refine r_iconst (v := 3) (by decide) dX11_lot_1 ?_
  try unfold C_X11_read at hf
  obtain ⟨⟨fs_r2, ha_r2⟩, hf⟩ := hf
  refine r_invVI (t := 11) (As := [aI 3]) (dz := d) (mz := 0) (sz := 0) rfl wd_5_34 wd_5_36 wd_p_38 cf_X11_read (Nat.le_refl _) (Nat.zero_le _) (Nat.zero_le _) (cat_ok (Nat.le_of_ble_eq_true rfl)) rfl rfl ha_r2 dX11_lot_2 hf (fun r2 σ1 hk => ?_)
  replace hf := hk
  clear hk
  exact r_ireturn rfl dX11_lot_5 rfl ⟨_, rfl, hf⟩
theorem m_X11_lot {l : Launch} {G : GG} {d : Nat} {v0 : Nat} {σ : Hp} {K : Int32 → Hp → Prop} (hr : rv σ v0 11) (hf : F_X11_lot l G d v0 σ K) : C_X11_lot l G (d + 1) v0 σ K := ⟨hr, Sp.of (by decide) (Nat.le_of_ble_eq_true rfl) (b_X11_lot_0 hf) rfl⟩
def F_X11_size_14 (l : Launch) (G : GG) (d : Nat) (v0 : Nat) (σ : Hp) (K : Int32 → Hp → Prop) : Prop :=
  C_X11_refuse l G d v0 2 σ fun r2 σ1 =>
  K r2 σ1
set_option maxRecDepth 100000 in
set_option maxHeartbeats 4000000 in
theorem b_X11_size_14 {l : Launch} {G : GG} {d : Nat} {v0 : Nat} {σ : Hp} {K : Int32 → Hp → Prop} (hf : F_X11_size_14 l G d v0 σ K) : Wd l G (d + 1) "CoinsLaid" yX11_size cX11_size 3 (some FieldType.int) 14 [(0, aR (some v0))] [] σ 0 0 (xM (QI K)) := by
  unfold F_X11_size_14 at hf
  refine r_aload_n (j := 0) rfl rfl dX11_size_14 ?_
  refine r_iconst (v := 2) (by decide) dX11_size_15 ?_
  try unfold C_X11_refuse at hf
  obtain ⟨⟨fs_r2, ha_r2⟩, hf⟩ := hf
  refine r_invVI (t := 11) (As := [aI 2]) (dz := d) (mz := 0) (sz := 0) rfl wd_1_222 wd_1_224 wd_p_1 cf_X11_refuse (Nat.le_refl _) (Nat.zero_le _) (Nat.zero_le _) (cat_ok (Nat.le_of_ble_eq_true rfl)) rfl rfl ha_r2 dX11_size_16 hf (fun r2 σ1 hk => ?_)
  replace hf := hk
  clear hk
  exact r_ireturn rfl dX11_size_19 rfl ⟨_, rfl, hf⟩
def F_X11_size (l : Launch) (G : GG) (d : Nat) (v0 : Nat) (v1 : Int32) (v2 : Int32) (σ : Hp) (K : Int32 → Hp → Prop) : Prop :=
  C_X7_isLength l G d v1 σ fun r4 σ3 =>
  (r4 = false →
    F_X11_size_14 l G d v0 σ3 K) ∧
  (r4 = true →
    C_X7_isWidth l G d v2 σ3 fun r6 σ5 =>
    (r6 = true →
      fN σ5 v0 11 11 fun x7 =>
      C_X7_sizeOf l G d x7 v1 v2 σ5 fun r9 σ8 =>
      C_X11_accept l G d v0 r9 σ8 fun r11 σ10 =>
      K r11 σ10) ∧
    (r6 = false →
      F_X11_size_14 l G d v0 σ5 K))
set_option maxRecDepth 100000 in
set_option maxHeartbeats 4000000 in
theorem b_X11_size_0 {l : Launch} {G : GG} {d : Nat} {v0 : Nat} {v1 : Int32} {v2 : Int32} {σ : Hp} {K : Int32 → Hp → Prop} (hf : F_X11_size l G d v0 v1 v2 σ K) : Wd l G (d + 1) "CoinsLaid" yX11_size cX11_size 3 (some FieldType.int) 0 [(0, aR (some v0)), (1, aI v1), (2, aI v2)] [] σ 0 0 (xM (QI K)) := by
  unfold F_X11_size at hf
  refine r_iload_n (j := 1) rfl rfl dX11_size_0 ?_
  try unfold C_X7_isLength at hf
  refine r_invSZ (As := [aI v1]) (dz := d) (mz := 0) (sz := 0) rfl wd_5_153 wd_5_154 cf_X7_isLength (Nat.le_refl _) (Nat.zero_le _) (Nat.zero_le _) (cat_ok (Nat.le_of_ble_eq_true rfl)) dX11_size_1 hf (fun r4 σ3 hk => ?_)
  replace hf := hk
  clear hk
  refine r_ifeqZ (b := r4) (tgt := 14) (by decide) dX11_size_4 (fun hc => ?_) (fun hc => ?_)
  · replace hf := hf.1 hc
    exact r_sub [0] rfl (b_X11_size_14 hf)
  · replace hf := hf.2 hc
    refine r_iload_n (j := 2) rfl rfl dX11_size_7 ?_
    try unfold C_X7_isWidth at hf
    refine r_invSZ (As := [aI v2]) (dz := d) (mz := 0) (sz := 0) rfl wd_5_156 wd_5_157 cf_X7_isWidth (Nat.le_refl _) (Nat.zero_le _) (Nat.zero_le _) (cat_ok (Nat.le_of_ble_eq_true rfl)) dX11_size_8 hf (fun r6 σ5 hk => ?_)
    replace hf := hk
    clear hk
    refine r_ifneZ (b := r6) (tgt := 20) (by decide) dX11_size_11 (fun hc => ?_) (fun hc => ?_)
    · replace hf := hf.1 hc
      refine r_aload_n (j := 0) rfl rfl dX11_size_20 ?_
      refine r_aload_n (j := 0) rfl rfl dX11_size_21 ?_
      obtain ⟨fs_x7, x7, ha_x7, hv_x7, hf⟩ := hf
      refine r_get (Cn := RX11) (Tt := TX11) (N := 12) (n := 11) rfl uw_X11 (Nat.le_of_ble_eq_true rfl) wd_1_184 ha_x7 hv_x7 dX11_size_22 ?_
      refine r_iload_n (j := 1) rfl rfl dX11_size_25 ?_
      refine r_iload_n (j := 2) rfl rfl dX11_size_26 ?_
      try unfold C_X7_sizeOf at hf
      obtain ⟨⟨fs_r9, ha_r9⟩, hf⟩ := hf
      refine r_invVI (t := 7) (As := [aI v1, aI v2]) (dz := d) (mz := 0) (sz := 0) rfl wd_5_159 wd_5_160 wd_5_161 cf_X7_sizeOf (Nat.le_refl _) (Nat.zero_le _) (Nat.zero_le _) (cat_ok (Nat.le_of_ble_eq_true rfl)) rfl rfl ha_r9 dX11_size_27 hf (fun r9 σ8 hk => ?_)
      replace hf := hk
      clear hk
      try unfold C_X11_accept at hf
      obtain ⟨⟨fs_r11, ha_r11⟩, hf⟩ := hf
      refine r_invVI (t := 11) (As := [aI r9]) (dz := d) (mz := 0) (sz := 0) rfl wd_4_118 wd_4_120 wd_p_30 cf_X11_accept (Nat.le_refl _) (Nat.zero_le _) (Nat.zero_le _) (cat_ok (Nat.le_of_ble_eq_true rfl)) rfl rfl ha_r11 dX11_size_30 hf (fun r11 σ10 hk => ?_)
      replace hf := hk
      clear hk
      exact r_ireturn rfl dX11_size_33 rfl ⟨_, rfl, hf⟩
    · replace hf := hf.2 hc
      exact r_sub [0] rfl (b_X11_size_14 hf)
theorem m_X11_size {l : Launch} {G : GG} {d : Nat} {v0 : Nat} {v1 : Int32} {v2 : Int32} {σ : Hp} {K : Int32 → Hp → Prop} (hr : rv σ v0 11) (hf : F_X11_size l G d v0 v1 v2 σ K) : C_X11_size l G (d + 1) v0 v1 v2 σ K := ⟨hr, Sp.of (by decide) (Nat.le_of_ble_eq_true rfl) (b_X11_size_0 hf) rfl⟩
def F_X11_rows_29 (l : Launch) (G : GG) (d : Nat) (v0 : Nat) (σ : Hp) (K : Int32 → Hp → Prop) : Prop :=
  C_X11_refuse l G d v0 2 σ fun r2 σ1 =>
  K r2 σ1
set_option maxRecDepth 100000 in
set_option maxHeartbeats 4000000 in
theorem b_X11_rows_29 {l : Launch} {G : GG} {d : Nat} {v0 : Nat} {σ : Hp} {K : Int32 → Hp → Prop} (hf : F_X11_rows_29 l G d v0 σ K) : Wd l G (d + 1) "CoinsLaid" yX11_rows cX11_rows 6 (some FieldType.int) 29 [(0, aR (some v0))] [] σ 0 0 (xM (QI K)) := by
  unfold F_X11_rows_29 at hf
  refine r_aload_n (j := 0) rfl rfl dX11_rows_29 ?_
  refine r_iconst (v := 2) (by decide) dX11_rows_30 ?_
  try unfold C_X11_refuse at hf
  obtain ⟨⟨fs_r2, ha_r2⟩, hf⟩ := hf
  refine r_invVI (t := 11) (As := [aI 2]) (dz := d) (mz := 0) (sz := 0) rfl wd_1_222 wd_1_224 wd_p_1 cf_X11_refuse (Nat.le_refl _) (Nat.zero_le _) (Nat.zero_le _) (cat_ok (Nat.le_of_ble_eq_true rfl)) rfl rfl ha_r2 dX11_rows_31 hf (fun r2 σ1 hk => ?_)
  replace hf := hk
  clear hk
  exact r_ireturn rfl dX11_rows_34 rfl ⟨_, rfl, hf⟩
def F_X11_rows_80 (l : Launch) (G : GG) (d : Nat) (s0 : Nat) (s1 : Bool) (σ : Hp) (K : Int32 → Hp → Prop) : Prop :=
  C_X11_accept l G d s0 (bi s1) σ fun r4 σ3 =>
  K r4 σ3
set_option maxRecDepth 100000 in
set_option maxHeartbeats 4000000 in
theorem b_X11_rows_80 {l : Launch} {G : GG} {d : Nat} {s0 : Nat} {s1 : Bool} {σ : Hp} {K : Int32 → Hp → Prop} (hf : F_X11_rows_80 l G d s0 s1 σ K) : Wd l G (d + 1) "CoinsLaid" yX11_rows cX11_rows 6 (some FieldType.int) 80 [] [aI (bi s1), aR (some s0)] σ 0 0 (xM (QI K)) := by
  unfold F_X11_rows_80 at hf
  try unfold C_X11_accept at hf
  obtain ⟨⟨fs_r4, ha_r4⟩, hf⟩ := hf
  refine r_invVI (t := 11) (As := [aI (bi s1)]) (dz := d) (mz := 0) (sz := 0) rfl wd_4_118 wd_4_120 wd_p_30 cf_X11_accept (Nat.le_refl _) (Nat.zero_le _) (Nat.zero_le _) (cat_ok (Nat.le_of_ble_eq_true rfl)) rfl rfl ha_r4 dX11_rows_80 hf (fun r4 σ3 hk => ?_)
  replace hf := hk
  clear hk
  exact r_ireturn rfl dX11_rows_83 rfl ⟨_, rfl, hf⟩
def F_X11_rows (l : Launch) (G : GG) (d : Nat) (v0 : Nat) (v1 : Int32) (v2 : Int32) (v3 : Int32) (v4 : Int32) (σ : Hp) (K : Int32 → Hp → Prop) : Prop :=
  C_X7_isLength l G d v1 σ fun r6 σ5 =>
  (r6 = false →
    F_X11_rows_29 l G d v0 σ5 K) ∧
  (r6 = true →
    C_X7_isLength l G d v2 σ5 fun r8 σ7 =>
    (r8 = false →
      F_X11_rows_29 l G d v0 σ7 K) ∧
    (r8 = true →
      C_X7_isLength l G d v3 σ7 fun r10 σ9 =>
      (r10 = false →
        F_X11_rows_29 l G d v0 σ9 K) ∧
      (r10 = true →
        C_X7_isWidth l G d v4 σ9 fun r12 σ11 =>
        (r12 = true →
          fN σ11 v0 11 11 fun x13 =>
          C_X7_sizeOf l G d x13 v1 v4 σ11 fun r15 σ14 =>
          fN σ14 v0 11 11 fun x16 =>
          C_X7_sizeOf l G d x16 v2 v4 σ14 fun r18 σ17 =>
          fN σ17 v0 11 11 fun x19 =>
          C_X7_sizeOf l G d x19 v3 v4 σ17 fun r21 σ20 =>
          ((((r15 ^^^ r18) ^^^ r21) : Int32) = 0 →
            F_X11_rows_80 l G d v0 false σ20 K) ∧
          (¬ (((r15 ^^^ r18) ^^^ r21) : Int32) = 0 →
            F_X11_rows_80 l G d v0 true σ20 K)) ∧
        (r12 = false →
          F_X11_rows_29 l G d v0 σ11 K))))
set_option maxRecDepth 100000 in
set_option maxHeartbeats 4000000 in
theorem b_X11_rows_0 {l : Launch} {G : GG} {d : Nat} {v0 : Nat} {v1 : Int32} {v2 : Int32} {v3 : Int32} {v4 : Int32} {σ : Hp} {K : Int32 → Hp → Prop} (hf : F_X11_rows l G d v0 v1 v2 v3 v4 σ K) : Wd l G (d + 1) "CoinsLaid" yX11_rows cX11_rows 6 (some FieldType.int) 0 [(0, aR (some v0)), (1, aI v1), (2, aI v2), (3, aI v3), (4, aI v4)] [] σ 0 0 (xM (QI K)) := by
  unfold F_X11_rows at hf
  refine r_iload_n (j := 1) rfl rfl dX11_rows_0 ?_
  try unfold C_X7_isLength at hf
  refine r_invSZ (As := [aI v1]) (dz := d) (mz := 0) (sz := 0) rfl wd_5_153 wd_5_154 cf_X7_isLength (Nat.le_refl _) (Nat.zero_le _) (Nat.zero_le _) (cat_ok (Nat.le_of_ble_eq_true rfl)) dX11_rows_1 hf (fun r6 σ5 hk => ?_)
  replace hf := hk
  clear hk
  refine r_ifeqZ (b := r6) (tgt := 29) (by decide) dX11_rows_4 (fun hc => ?_) (fun hc => ?_)
  · replace hf := hf.1 hc
    exact r_sub [0] rfl (b_X11_rows_29 hf)
  · replace hf := hf.2 hc
    refine r_iload_n (j := 2) rfl rfl dX11_rows_7 ?_
    try unfold C_X7_isLength at hf
    refine r_invSZ (As := [aI v2]) (dz := d) (mz := 0) (sz := 0) rfl wd_5_153 wd_5_154 cf_X7_isLength (Nat.le_refl _) (Nat.zero_le _) (Nat.zero_le _) (cat_ok (Nat.le_of_ble_eq_true rfl)) dX11_rows_8 hf (fun r8 σ7 hk => ?_)
    replace hf := hk
    clear hk
    refine r_ifeqZ (b := r8) (tgt := 29) (by decide) dX11_rows_11 (fun hc => ?_) (fun hc => ?_)
    · replace hf := hf.1 hc
      exact r_sub [0] rfl (b_X11_rows_29 hf)
    · replace hf := hf.2 hc
      refine r_iload_n (j := 3) rfl rfl dX11_rows_14 ?_
      try unfold C_X7_isLength at hf
      refine r_invSZ (As := [aI v3]) (dz := d) (mz := 0) (sz := 0) rfl wd_5_153 wd_5_154 cf_X7_isLength (Nat.le_refl _) (Nat.zero_le _) (Nat.zero_le _) (cat_ok (Nat.le_of_ble_eq_true rfl)) dX11_rows_15 hf (fun r10 σ9 hk => ?_)
      replace hf := hk
      clear hk
      refine r_ifeqZ (b := r10) (tgt := 29) (by decide) dX11_rows_18 (fun hc => ?_) (fun hc => ?_)
      · replace hf := hf.1 hc
        exact r_sub [0] rfl (b_X11_rows_29 hf)
      · replace hf := hf.2 hc
        refine r_iload (j := 4) rfl dX11_rows_21 ?_
        try unfold C_X7_isWidth at hf
        refine r_invSZ (As := [aI v4]) (dz := d) (mz := 0) (sz := 0) rfl wd_5_156 wd_5_157 cf_X7_isWidth (Nat.le_refl _) (Nat.zero_le _) (Nat.zero_le _) (cat_ok (Nat.le_of_ble_eq_true rfl)) dX11_rows_23 hf (fun r12 σ11 hk => ?_)
        replace hf := hk
        clear hk
        refine r_ifneZ (b := r12) (tgt := 35) (by decide) dX11_rows_26 (fun hc => ?_) (fun hc => ?_)
        · replace hf := hf.1 hc
          refine r_aload_n (j := 0) rfl rfl dX11_rows_35 ?_
          obtain ⟨fs_x13, x13, ha_x13, hv_x13, hf⟩ := hf
          refine r_get (Cn := RX11) (Tt := TX11) (N := 12) (n := 11) rfl uw_X11 (Nat.le_of_ble_eq_true rfl) wd_1_184 ha_x13 hv_x13 dX11_rows_36 ?_
          refine r_iload_n (j := 1) rfl rfl dX11_rows_39 ?_
          refine r_iload (j := 4) rfl dX11_rows_40 ?_
          try unfold C_X7_sizeOf at hf
          obtain ⟨⟨fs_r15, ha_r15⟩, hf⟩ := hf
          refine r_invVI (t := 7) (As := [aI v1, aI v4]) (dz := d) (mz := 0) (sz := 0) rfl wd_5_159 wd_5_160 wd_5_161 cf_X7_sizeOf (Nat.le_refl _) (Nat.zero_le _) (Nat.zero_le _) (cat_ok (Nat.le_of_ble_eq_true rfl)) rfl rfl ha_r15 dX11_rows_42 hf (fun r15 σ14 hk => ?_)
          replace hf := hk
          clear hk
          refine r_aload_n (j := 0) rfl rfl dX11_rows_45 ?_
          obtain ⟨fs_x16, x16, ha_x16, hv_x16, hf⟩ := hf
          refine r_get (Cn := RX11) (Tt := TX11) (N := 12) (n := 11) rfl uw_X11 (Nat.le_of_ble_eq_true rfl) wd_1_184 ha_x16 hv_x16 dX11_rows_46 ?_
          refine r_iload_n (j := 2) rfl rfl dX11_rows_49 ?_
          refine r_iload (j := 4) rfl dX11_rows_50 ?_
          try unfold C_X7_sizeOf at hf
          obtain ⟨⟨fs_r18, ha_r18⟩, hf⟩ := hf
          refine r_invVI (t := 7) (As := [aI v2, aI v4]) (dz := d) (mz := 0) (sz := 0) rfl wd_5_159 wd_5_160 wd_5_161 cf_X7_sizeOf (Nat.le_refl _) (Nat.zero_le _) (Nat.zero_le _) (cat_ok (Nat.le_of_ble_eq_true rfl)) rfl rfl ha_r18 dX11_rows_52 hf (fun r18 σ17 hk => ?_)
          replace hf := hk
          clear hk
          refine r_ixor (x := r15) (y := r18) dX11_rows_55 ?_
          refine r_aload_n (j := 0) rfl rfl dX11_rows_56 ?_
          obtain ⟨fs_x19, x19, ha_x19, hv_x19, hf⟩ := hf
          refine r_get (Cn := RX11) (Tt := TX11) (N := 12) (n := 11) rfl uw_X11 (Nat.le_of_ble_eq_true rfl) wd_1_184 ha_x19 hv_x19 dX11_rows_57 ?_
          refine r_iload_n (j := 3) rfl rfl dX11_rows_60 ?_
          refine r_iload (j := 4) rfl dX11_rows_61 ?_
          try unfold C_X7_sizeOf at hf
          obtain ⟨⟨fs_r21, ha_r21⟩, hf⟩ := hf
          refine r_invVI (t := 7) (As := [aI v3, aI v4]) (dz := d) (mz := 0) (sz := 0) rfl wd_5_159 wd_5_160 wd_5_161 cf_X7_sizeOf (Nat.le_refl _) (Nat.zero_le _) (Nat.zero_le _) (cat_ok (Nat.le_of_ble_eq_true rfl)) rfl rfl ha_r21 dX11_rows_63 hf (fun r21 σ20 hk => ?_)
          replace hf := hk
          clear hk
          refine r_ixor (x := (r15 ^^^ r18)) (y := r21) dX11_rows_66 ?_
          refine r_istore (L' := [(5, aI ((r15 ^^^ r18) ^^^ r21)), (0, aR (some v0)), (1, aI v1), (2, aI v2), (3, aI v3), (4, aI v4)]) rfl (Nat.le_of_ble_eq_true rfl) dX11_rows_67 ?_
          refine r_aload_n (j := 1) rfl rfl dX11_rows_69 ?_
          refine r_iload (j := 0) rfl dX11_rows_70 ?_
          refine r_ifeq (x := ((r15 ^^^ r18) ^^^ r21)) (tgt := 79) (by decide) dX11_rows_72 (fun hc => ?_) (fun hc => ?_)
          · replace hf := hf.1 hc
            refine r_iconst (v := 0) (by decide) dX11_rows_79 ?_
            exact r_sub [] rfl (b_X11_rows_80 hf)
          · replace hf := hf.2 hc
            refine r_iconst (v := 1) (by decide) dX11_rows_75 ?_
            refine r_goto (tgt := 80) (by decide) dX11_rows_76 ?_
            exact r_sub [] rfl (b_X11_rows_80 hf)
        · replace hf := hf.2 hc
          exact r_sub [0] rfl (b_X11_rows_29 hf)
theorem m_X11_rows {l : Launch} {G : GG} {d : Nat} {v0 : Nat} {v1 : Int32} {v2 : Int32} {v3 : Int32} {v4 : Int32} {σ : Hp} {K : Int32 → Hp → Prop} (hr : rv σ v0 11) (hf : F_X11_rows l G d v0 v1 v2 v3 v4 σ K) : C_X11_rows l G (d + 1) v0 v1 v2 v3 v4 σ K := ⟨hr, Sp.of (by decide) (Nat.le_of_ble_eq_true rfl) (b_X11_rows_0 hf) rfl⟩
def F_X11_rowLay_24 (l : Launch) (G : GG) (d : Nat) (v0 : Nat) (σ : Hp) (K : Int32 → Hp → Prop) : Prop :=
  C_X11_refuse l G d v0 2 σ fun r2 σ1 =>
  K r2 σ1
set_option maxRecDepth 100000 in
set_option maxHeartbeats 4000000 in
theorem b_X11_rowLay_24 {l : Launch} {G : GG} {d : Nat} {v0 : Nat} {σ : Hp} {K : Int32 → Hp → Prop} (hf : F_X11_rowLay_24 l G d v0 σ K) : Wd l G (d + 1) "CoinsLaid" yX11_rowLay cX11_rowLay 4 (some FieldType.int) 24 [(0, aR (some v0))] [] σ 0 0 (xM (QI K)) := by
  unfold F_X11_rowLay_24 at hf
  refine r_aload_n (j := 0) rfl rfl dX11_rowLay_24 ?_
  refine r_iconst (v := 2) (by decide) dX11_rowLay_25 ?_
  try unfold C_X11_refuse at hf
  obtain ⟨⟨fs_r2, ha_r2⟩, hf⟩ := hf
  refine r_invVI (t := 11) (As := [aI 2]) (dz := d) (mz := 0) (sz := 0) rfl wd_1_222 wd_1_224 wd_p_1 cf_X11_refuse (Nat.le_refl _) (Nat.zero_le _) (Nat.zero_le _) (cat_ok (Nat.le_of_ble_eq_true rfl)) rfl rfl ha_r2 dX11_rowLay_26 hf (fun r2 σ1 hk => ?_)
  replace hf := hk
  clear hk
  exact r_ireturn rfl dX11_rowLay_29 rfl ⟨_, rfl, hf⟩
def F_X11_rowLay (l : Launch) (G : GG) (d : Nat) (v0 : Nat) (v1 : Int32) (v2 : Int32) (v3 : Int32) (σ : Hp) (K : Int32 → Hp → Prop) : Prop :=
  C_X7_isLength l G d v1 σ fun r4 σ3 =>
  (r4 = false →
    F_X11_rowLay_24 l G d v0 σ3 K) ∧
  (r4 = true →
    C_X7_isWidth l G d v2 σ3 fun r6 σ5 =>
    (r6 = false →
      F_X11_rowLay_24 l G d v0 σ5 K) ∧
    (r6 = true →
      ((v3 : Int32) < 0 →
        F_X11_rowLay_24 l G d v0 σ5 K) ∧
      (¬ (v3 : Int32) < 0 →
        ((v3 : Int32) ≤ (99 : Int32) →
          fN σ5 v0 11 11 fun x7 =>
          C_X7_firstMaking l G d x7 v1 v2 v3 σ5 fun r9 σ8 =>
          C_X11_accept l G d v0 r9 σ8 fun r11 σ10 =>
          K r11 σ10) ∧
        (¬ (v3 : Int32) ≤ (99 : Int32) →
          F_X11_rowLay_24 l G d v0 σ5 K))))
set_option maxRecDepth 100000 in
set_option maxHeartbeats 4000000 in
theorem b_X11_rowLay_0 {l : Launch} {G : GG} {d : Nat} {v0 : Nat} {v1 : Int32} {v2 : Int32} {v3 : Int32} {σ : Hp} {K : Int32 → Hp → Prop} (hf : F_X11_rowLay l G d v0 v1 v2 v3 σ K) : Wd l G (d + 1) "CoinsLaid" yX11_rowLay cX11_rowLay 4 (some FieldType.int) 0 [(0, aR (some v0)), (1, aI v1), (2, aI v2), (3, aI v3)] [] σ 0 0 (xM (QI K)) := by
  unfold F_X11_rowLay at hf
  refine r_iload_n (j := 1) rfl rfl dX11_rowLay_0 ?_
  try unfold C_X7_isLength at hf
  refine r_invSZ (As := [aI v1]) (dz := d) (mz := 0) (sz := 0) rfl wd_5_153 wd_5_154 cf_X7_isLength (Nat.le_refl _) (Nat.zero_le _) (Nat.zero_le _) (cat_ok (Nat.le_of_ble_eq_true rfl)) dX11_rowLay_1 hf (fun r4 σ3 hk => ?_)
  replace hf := hk
  clear hk
  refine r_ifeqZ (b := r4) (tgt := 24) (by decide) dX11_rowLay_4 (fun hc => ?_) (fun hc => ?_)
  · replace hf := hf.1 hc
    exact r_sub [0] rfl (b_X11_rowLay_24 hf)
  · replace hf := hf.2 hc
    refine r_iload_n (j := 2) rfl rfl dX11_rowLay_7 ?_
    try unfold C_X7_isWidth at hf
    refine r_invSZ (As := [aI v2]) (dz := d) (mz := 0) (sz := 0) rfl wd_5_156 wd_5_157 cf_X7_isWidth (Nat.le_refl _) (Nat.zero_le _) (Nat.zero_le _) (cat_ok (Nat.le_of_ble_eq_true rfl)) dX11_rowLay_8 hf (fun r6 σ5 hk => ?_)
    replace hf := hk
    clear hk
    refine r_ifeqZ (b := r6) (tgt := 24) (by decide) dX11_rowLay_11 (fun hc => ?_) (fun hc => ?_)
    · replace hf := hf.1 hc
      exact r_sub [0] rfl (b_X11_rowLay_24 hf)
    · replace hf := hf.2 hc
      refine r_iload_n (j := 3) rfl rfl dX11_rowLay_14 ?_
      refine r_iflt (x := v3) (tgt := 24) (by decide) dX11_rowLay_15 (fun hc => ?_) (fun hc => ?_)
      · replace hf := hf.1 hc
        exact r_sub [0] rfl (b_X11_rowLay_24 hf)
      · replace hf := hf.2 hc
        refine r_iload_n (j := 3) rfl rfl dX11_rowLay_18 ?_
        refine r_bipush (v := 99) (by decide) dX11_rowLay_19 ?_
        refine r_icmple (x := v3) (y := 99) (tgt := 30) (by decide) dX11_rowLay_21 (fun hc => ?_) (fun hc => ?_)
        · replace hf := hf.1 hc
          refine r_aload_n (j := 0) rfl rfl dX11_rowLay_30 ?_
          refine r_aload_n (j := 0) rfl rfl dX11_rowLay_31 ?_
          obtain ⟨fs_x7, x7, ha_x7, hv_x7, hf⟩ := hf
          refine r_get (Cn := RX11) (Tt := TX11) (N := 12) (n := 11) rfl uw_X11 (Nat.le_of_ble_eq_true rfl) wd_1_184 ha_x7 hv_x7 dX11_rowLay_32 ?_
          refine r_iload_n (j := 1) rfl rfl dX11_rowLay_35 ?_
          refine r_iload_n (j := 2) rfl rfl dX11_rowLay_36 ?_
          refine r_iload_n (j := 3) rfl rfl dX11_rowLay_37 ?_
          try unfold C_X7_firstMaking at hf
          obtain ⟨⟨fs_r9, ha_r9⟩, hf⟩ := hf
          refine r_invVI (t := 7) (As := [aI v1, aI v2, aI v3]) (dz := d) (mz := 0) (sz := 0) rfl wd_5_183 wd_5_184 wd_5_185 cf_X7_firstMaking (Nat.le_refl _) (Nat.zero_le _) (Nat.zero_le _) (cat_ok (Nat.le_of_ble_eq_true rfl)) rfl rfl ha_r9 dX11_rowLay_38 hf (fun r9 σ8 hk => ?_)
          replace hf := hk
          clear hk
          try unfold C_X11_accept at hf
          obtain ⟨⟨fs_r11, ha_r11⟩, hf⟩ := hf
          refine r_invVI (t := 11) (As := [aI r9]) (dz := d) (mz := 0) (sz := 0) rfl wd_4_118 wd_4_120 wd_p_30 cf_X11_accept (Nat.le_refl _) (Nat.zero_le _) (Nat.zero_le _) (cat_ok (Nat.le_of_ble_eq_true rfl)) rfl rfl ha_r11 dX11_rowLay_41 hf (fun r11 σ10 hk => ?_)
          replace hf := hk
          clear hk
          exact r_ireturn rfl dX11_rowLay_44 rfl ⟨_, rfl, hf⟩
        · replace hf := hf.2 hc
          exact r_sub [0] rfl (b_X11_rowLay_24 hf)
theorem m_X11_rowLay {l : Launch} {G : GG} {d : Nat} {v0 : Nat} {v1 : Int32} {v2 : Int32} {v3 : Int32} {σ : Hp} {K : Int32 → Hp → Prop} (hr : rv σ v0 11) (hf : F_X11_rowLay l G d v0 v1 v2 v3 σ K) : C_X11_rowLay l G (d + 1) v0 v1 v2 v3 σ K := ⟨hr, Sp.of (by decide) (Nat.le_of_ble_eq_true rfl) (b_X11_rowLay_0 hf) rfl⟩
def F_X11_round_52 (l : Launch) (G : GG) (d : Nat) (s0 : Nat) (s1 : Int32) (σ : Hp) (K : Int32 → Hp → Prop) : Prop :=
  C_X11_accept l G d s0 s1 σ fun r2 σ1 =>
  K r2 σ1
set_option maxRecDepth 100000 in
set_option maxHeartbeats 4000000 in
theorem b_X11_round_52 {l : Launch} {G : GG} {d : Nat} {s0 : Nat} {s1 : Int32} {σ : Hp} {K : Int32 → Hp → Prop} (hf : F_X11_round_52 l G d s0 s1 σ K) : Wd l G (d + 1) "CoinsLaid" yX11_round cX11_round 4 (some FieldType.int) 52 [] [aI s1, aR (some s0)] σ 0 0 (xM (QI K)) := by
  unfold F_X11_round_52 at hf
  try unfold C_X11_accept at hf
  obtain ⟨⟨fs_r2, ha_r2⟩, hf⟩ := hf
  refine r_invVI (t := 11) (As := [aI s1]) (dz := d) (mz := 0) (sz := 0) rfl wd_4_118 wd_4_120 wd_p_30 cf_X11_accept (Nat.le_refl _) (Nat.zero_le _) (Nat.zero_le _) (cat_ok (Nat.le_of_ble_eq_true rfl)) rfl rfl ha_r2 dX11_round_52 hf (fun r2 σ1 hk => ?_)
  replace hf := hk
  clear hk
  exact r_ireturn rfl dX11_round_55 rfl ⟨_, rfl, hf⟩
def F_X11_round (l : Launch) (G : GG) (d : Nat) (v0 : Nat) (v1 : Int32) (v2 : Bool) (σ : Hp) (K : Int32 → Hp → Prop) : Prop :=
  C_X7_isWidth l G d v1 σ fun r4 σ3 =>
  (r4 = true →
    fN σ3 v0 11 11 fun x5 =>
    C_X7_periodOf l G d x5 v1 σ3 fun r7 σ6 =>
    (¬ (r7 : Int32) = ((-1) : Int32) →
      (v2 = false →
        F_X11_round_52 l G d v0 r7 σ6 K) ∧
      (v2 = true →
        fN σ6 v0 11 11 fun x8 =>
        C_X7_startOf l G d x8 v1 r7 σ6 fun r10 σ9 =>
        F_X11_round_52 l G d v0 r10 σ9 K)) ∧
    ((r7 : Int32) = ((-1) : Int32) →
      C_X11_accept l G d v0 (-2) σ6 fun r12 σ11 =>
      K r12 σ11)) ∧
  (r4 = false →
    C_X11_refuse l G d v0 2 σ3 fun r14 σ13 =>
    K r14 σ13)
set_option maxRecDepth 100000 in
set_option maxHeartbeats 4000000 in
theorem b_X11_round_0 {l : Launch} {G : GG} {d : Nat} {v0 : Nat} {v1 : Int32} {v2 : Bool} {σ : Hp} {K : Int32 → Hp → Prop} (hf : F_X11_round l G d v0 v1 v2 σ K) : Wd l G (d + 1) "CoinsLaid" yX11_round cX11_round 4 (some FieldType.int) 0 [(0, aR (some v0)), (1, aI v1), (2, aI (bi v2))] [] σ 0 0 (xM (QI K)) := by
  unfold F_X11_round at hf
  refine r_iload_n (j := 1) rfl rfl dX11_round_0 ?_
  try unfold C_X7_isWidth at hf
  refine r_invSZ (As := [aI v1]) (dz := d) (mz := 0) (sz := 0) rfl wd_5_156 wd_5_157 cf_X7_isWidth (Nat.le_refl _) (Nat.zero_le _) (Nat.zero_le _) (cat_ok (Nat.le_of_ble_eq_true rfl)) dX11_round_1 hf (fun r4 σ3 hk => ?_)
  replace hf := hk
  clear hk
  refine r_ifneZ (b := r4) (tgt := 13) (by decide) dX11_round_4 (fun hc => ?_) (fun hc => ?_)
  · replace hf := hf.1 hc
    refine r_aload_n (j := 0) rfl rfl dX11_round_13 ?_
    obtain ⟨fs_x5, x5, ha_x5, hv_x5, hf⟩ := hf
    refine r_get (Cn := RX11) (Tt := TX11) (N := 12) (n := 11) rfl uw_X11 (Nat.le_of_ble_eq_true rfl) wd_1_184 ha_x5 hv_x5 dX11_round_14 ?_
    refine r_iload_n (j := 1) rfl rfl dX11_round_17 ?_
    try unfold C_X7_periodOf at hf
    obtain ⟨⟨fs_r7, ha_r7⟩, hf⟩ := hf
    refine r_invVI (t := 7) (As := [aI v1]) (dz := d) (mz := 0) (sz := 0) rfl wd_5_191 wd_5_192 wd_5_193 cf_X7_periodOf (Nat.le_refl _) (Nat.zero_le _) (Nat.zero_le _) (cat_ok (Nat.le_of_ble_eq_true rfl)) rfl rfl ha_r7 dX11_round_18 hf (fun r7 σ6 hk => ?_)
    replace hf := hk
    clear hk
    refine r_istore_n (L' := [(3, aI r7), (0, aR (some v0)), (1, aI v1), (2, aI (bi v2))]) rfl rfl (Nat.le_of_ble_eq_true rfl) dX11_round_21 ?_
    refine r_iload_n (j := 0) rfl rfl dX11_round_22 ?_
    refine r_iconst (v := (-1)) (by decide) dX11_round_23 ?_
    refine r_icmpne (x := r7) (y := (-1)) (tgt := 34) (by decide) dX11_round_24 (fun hc => ?_) (fun hc => ?_)
    · replace hf := hf.1 hc
      refine r_aload_n (j := 1) rfl rfl dX11_round_34 ?_
      refine r_iload_n (j := 3) rfl rfl dX11_round_35 ?_
      refine r_ifeqZ (b := v2) (tgt := 51) (by decide) dX11_round_36 (fun hc => ?_) (fun hc => ?_)
      · replace hf := hf.1 hc
        refine r_iload_n (j := 0) rfl rfl dX11_round_51 ?_
        exact r_sub [] rfl (b_X11_round_52 hf)
      · replace hf := hf.2 hc
        refine r_aload_n (j := 1) rfl rfl dX11_round_39 ?_
        obtain ⟨fs_x8, x8, ha_x8, hv_x8, hf⟩ := hf
        refine r_get (Cn := RX11) (Tt := TX11) (N := 12) (n := 11) rfl uw_X11 (Nat.le_of_ble_eq_true rfl) wd_1_184 ha_x8 hv_x8 dX11_round_40 ?_
        refine r_iload_n (j := 2) rfl rfl dX11_round_43 ?_
        refine r_iload_n (j := 0) rfl rfl dX11_round_44 ?_
        try unfold C_X7_startOf at hf
        obtain ⟨⟨fs_r10, ha_r10⟩, hf⟩ := hf
        refine r_invVI (t := 7) (As := [aI v1, aI r7]) (dz := d) (mz := 0) (sz := 0) rfl wd_5_199 wd_5_196 wd_5_197 cf_X7_startOf (Nat.le_refl _) (Nat.zero_le _) (Nat.zero_le _) (cat_ok (Nat.le_of_ble_eq_true rfl)) rfl rfl ha_r10 dX11_round_45 hf (fun r10 σ9 hk => ?_)
        replace hf := hk
        clear hk
        refine r_goto (tgt := 52) (by decide) dX11_round_48 ?_
        exact r_sub [] rfl (b_X11_round_52 hf)
    · replace hf := hf.2 hc
      refine r_aload_n (j := 1) rfl rfl dX11_round_27 ?_
      refine r_bipush (v := (-2)) (by decide) dX11_round_28 ?_
      try unfold C_X11_accept at hf
      obtain ⟨⟨fs_r12, ha_r12⟩, hf⟩ := hf
      refine r_invVI (t := 11) (As := [aI (-2)]) (dz := d) (mz := 0) (sz := 0) rfl wd_4_118 wd_4_120 wd_p_30 cf_X11_accept (Nat.le_refl _) (Nat.zero_le _) (Nat.zero_le _) (cat_ok (Nat.le_of_ble_eq_true rfl)) rfl rfl ha_r12 dX11_round_30 hf (fun r12 σ11 hk => ?_)
      replace hf := hk
      clear hk
      exact r_ireturn rfl dX11_round_33 rfl ⟨_, rfl, hf⟩
  · replace hf := hf.2 hc
    refine r_aload_n (j := 0) rfl rfl dX11_round_7 ?_
    refine r_iconst (v := 2) (by decide) dX11_round_8 ?_
    try unfold C_X11_refuse at hf
    obtain ⟨⟨fs_r14, ha_r14⟩, hf⟩ := hf
    refine r_invVI (t := 11) (As := [aI 2]) (dz := d) (mz := 0) (sz := 0) rfl wd_1_222 wd_1_224 wd_p_1 cf_X11_refuse (Nat.le_refl _) (Nat.zero_le _) (Nat.zero_le _) (cat_ok (Nat.le_of_ble_eq_true rfl)) rfl rfl ha_r14 dX11_round_9 hf (fun r14 σ13 hk => ?_)
    replace hf := hk
    clear hk
    exact r_ireturn rfl dX11_round_12 rfl ⟨_, rfl, hf⟩
theorem m_X11_round {l : Launch} {G : GG} {d : Nat} {v0 : Nat} {v1 : Int32} {v2 : Bool} {σ : Hp} {K : Int32 → Hp → Prop} (hr : rv σ v0 11) (hf : F_X11_round l G d v0 v1 v2 σ K) : C_X11_round l G (d + 1) v0 v1 v2 σ K := ⟨hr, Sp.of (by decide) (Nat.le_of_ble_eq_true rfl) (b_X11_round_0 hf) rfl⟩
def F_X11_would_14 (l : Launch) (G : GG) (d : Nat) (v0 : Nat) (σ : Hp) (K : Int32 → Hp → Prop) : Prop :=
  C_X11_refuse l G d v0 1 σ fun r2 σ1 =>
  K r2 σ1
set_option maxRecDepth 100000 in
set_option maxHeartbeats 4000000 in
theorem b_X11_would_14 {l : Launch} {G : GG} {d : Nat} {v0 : Nat} {σ : Hp} {K : Int32 → Hp → Prop} (hf : F_X11_would_14 l G d v0 σ K) : Wd l G (d + 1) "CoinsLaid" yX11_would cX11_would 2 (some FieldType.int) 14 [(0, aR (some v0))] [] σ 0 0 (xM (QI K)) := by
  unfold F_X11_would_14 at hf
  refine r_aload_n (j := 0) rfl rfl dX11_would_14 ?_
  refine r_iconst (v := 1) (by decide) dX11_would_15 ?_
  try unfold C_X11_refuse at hf
  obtain ⟨⟨fs_r2, ha_r2⟩, hf⟩ := hf
  refine r_invVI (t := 11) (As := [aI 1]) (dz := d) (mz := 0) (sz := 0) rfl wd_1_222 wd_1_224 wd_p_1 cf_X11_refuse (Nat.le_refl _) (Nat.zero_le _) (Nat.zero_le _) (cat_ok (Nat.le_of_ble_eq_true rfl)) rfl rfl ha_r2 dX11_would_16 hf (fun r2 σ1 hk => ?_)
  replace hf := hk
  clear hk
  exact r_ireturn rfl dX11_would_19 rfl ⟨_, rfl, hf⟩
def F_X11_would (l : Launch) (G : GG) (d : Nat) (v0 : Nat) (v1 : Int32) (σ : Hp) (K : Int32 → Hp → Prop) : Prop :=
  fR σ v0 11 5 fun x3 =>
  (x3 = none →
    F_X11_would_14 l G d v0 σ K) ∧
  (∀ b4, x3 = some b4 →
    C_X11_isPlayer l G d v1 σ fun r6 σ5 =>
    (r6 = true →
      fN σ5 v0 11 10 fun x7 =>
      fN σ5 v0 11 6 fun x8 =>
      fN σ5 v0 11 7 fun x9 =>
      C_X6_wouldLay l G d x7 v1 x8 x9 σ5 fun r11 σ10 =>
      C_X11_numberOf l G d r11 σ10 fun r13 σ12 =>
      C_X11_accept l G d v0 r13 σ12 fun r15 σ14 =>
      K r15 σ14) ∧
    (r6 = false →
      F_X11_would_14 l G d v0 σ5 K))
set_option maxRecDepth 100000 in
set_option maxHeartbeats 4000000 in
theorem b_X11_would_0 {l : Launch} {G : GG} {d : Nat} {v0 : Nat} {v1 : Int32} {σ : Hp} {K : Int32 → Hp → Prop} (hf : F_X11_would l G d v0 v1 σ K) : Wd l G (d + 1) "CoinsLaid" yX11_would cX11_would 2 (some FieldType.int) 0 [(0, aR (some v0)), (1, aI v1)] [] σ 0 0 (xM (QI K)) := by
  unfold F_X11_would at hf
  refine r_aload_n (j := 0) rfl rfl dX11_would_0 ?_
  obtain ⟨fs_x3, x3, ha_x3, hv_x3, hf⟩ := hf
  refine r_get (Cn := RX11) (Tt := TX11) (N := 12) (n := 5) rfl uw_X11 (Nat.le_of_ble_eq_true rfl) wd_1_178 ha_x3 hv_x3 dX11_would_1 ?_
  refine r_ifnull (o := x3) (tgt := 14) (by decide) dX11_would_4 (fun hc => ?_) (fun b4 hc => ?_)
  · replace hf := hf.1 hc
    subst hc
    exact r_sub [0] rfl (b_X11_would_14 hf)
  · replace hf := hf.2 b4 hc
    subst hc
    refine r_iload_n (j := 1) rfl rfl dX11_would_7 ?_
    try unfold C_X11_isPlayer at hf
    refine r_invSZ (As := [aI v1]) (dz := d) (mz := 0) (sz := 0) rfl wd_5_204 wd_5_205 cf_X11_isPlayer (Nat.le_refl _) (Nat.zero_le _) (Nat.zero_le _) (cat_ok (Nat.le_of_ble_eq_true rfl)) dX11_would_8 hf (fun r6 σ5 hk => ?_)
    replace hf := hk
    clear hk
    refine r_ifneZ (b := r6) (tgt := 20) (by decide) dX11_would_11 (fun hc => ?_) (fun hc => ?_)
    · replace hf := hf.1 hc
      refine r_aload_n (j := 0) rfl rfl dX11_would_20 ?_
      refine r_aload_n (j := 0) rfl rfl dX11_would_21 ?_
      obtain ⟨fs_x7, x7, ha_x7, hv_x7, hf⟩ := hf
      refine r_get (Cn := RX11) (Tt := TX11) (N := 12) (n := 10) rfl uw_X11 (Nat.le_of_ble_eq_true rfl) wd_1_183 ha_x7 hv_x7 dX11_would_22 ?_
      refine r_iload_n (j := 1) rfl rfl dX11_would_25 ?_
      refine r_aload_n (j := 0) rfl rfl dX11_would_26 ?_
      obtain ⟨fs_x8, x8, ha_x8, hv_x8, hf⟩ := hf
      refine r_get (Cn := RX11) (Tt := TX11) (N := 12) (n := 6) rfl uw_X11 (Nat.le_of_ble_eq_true rfl) wd_1_179 ha_x8 hv_x8 dX11_would_27 ?_
      refine r_aload_n (j := 0) rfl rfl dX11_would_30 ?_
      obtain ⟨fs_x9, x9, ha_x9, hv_x9, hf⟩ := hf
      refine r_get (Cn := RX11) (Tt := TX11) (N := 12) (n := 7) rfl uw_X11 (Nat.le_of_ble_eq_true rfl) wd_1_180 ha_x9 hv_x9 dX11_would_31 ?_
      try unfold C_X6_wouldLay at hf
      obtain ⟨⟨fs_r11, ha_r11⟩, hf⟩ := hf
      refine r_invVR (t := 6) (As := [aI v1, aR (some x8), aR (some x9)]) (dz := d) (mz := 0) (sz := 0) rfl wd_5_207 wd_5_208 wd_5_209 cf_X6_wouldLay (Nat.le_refl _) (Nat.zero_le _) (Nat.zero_le _) (cat_ok (Nat.le_of_ble_eq_true rfl)) rfl rfl ha_r11 dX11_would_34 hf (fun r11 σ10 hk => ?_)
      replace hf := hk
      clear hk
      try unfold C_X11_numberOf at hf
      refine r_invSI (As := [aR r11]) (dz := d) (mz := 0) (sz := 0) rfl wd_4_163 wd_4_164 cf_X11_numberOf (Nat.le_refl _) (Nat.zero_le _) (Nat.zero_le _) (cat_ok (Nat.le_of_ble_eq_true rfl)) dX11_would_37 hf (fun r13 σ12 hk => ?_)
      replace hf := hk
      clear hk
      try unfold C_X11_accept at hf
      obtain ⟨⟨fs_r15, ha_r15⟩, hf⟩ := hf
      refine r_invVI (t := 11) (As := [aI r13]) (dz := d) (mz := 0) (sz := 0) rfl wd_4_118 wd_4_120 wd_p_30 cf_X11_accept (Nat.le_refl _) (Nat.zero_le _) (Nat.zero_le _) (cat_ok (Nat.le_of_ble_eq_true rfl)) rfl rfl ha_r15 dX11_would_40 hf (fun r15 σ14 hk => ?_)
      replace hf := hk
      clear hk
      exact r_ireturn rfl dX11_would_43 rfl ⟨_, rfl, hf⟩
    · replace hf := hf.2 hc
      exact r_sub [0] rfl (b_X11_would_14 hf)
theorem m_X11_would {l : Launch} {G : GG} {d : Nat} {v0 : Nat} {v1 : Int32} {σ : Hp} {K : Int32 → Hp → Prop} (hr : rv σ v0 11) (hf : F_X11_would l G d v0 v1 σ K) : C_X11_would l G (d + 1) v0 v1 σ K := ⟨hr, Sp.of (by decide) (Nat.le_of_ble_eq_true rfl) (b_X11_would_0 hf) rfl⟩
def F_X11_match_21 (l : Launch) (G : GG) (d : Nat) (v0 : Nat) (σ : Hp) (K : Int32 → Hp → Prop) : Prop :=
  C_X11_refuse l G d v0 1 σ fun r2 σ1 =>
  K r2 σ1
set_option maxRecDepth 100000 in
set_option maxHeartbeats 4000000 in
theorem b_X11_match_21 {l : Launch} {G : GG} {d : Nat} {v0 : Nat} {σ : Hp} {K : Int32 → Hp → Prop} (hf : F_X11_match_21 l G d v0 σ K) : Wd l G (d + 1) "CoinsLaid" yX11_match cX11_match 3 (some FieldType.int) 21 [(0, aR (some v0))] [] σ 0 0 (xM (QI K)) := by
  unfold F_X11_match_21 at hf
  refine r_aload_n (j := 0) rfl rfl dX11_match_21 ?_
  refine r_iconst (v := 1) (by decide) dX11_match_22 ?_
  try unfold C_X11_refuse at hf
  obtain ⟨⟨fs_r2, ha_r2⟩, hf⟩ := hf
  refine r_invVI (t := 11) (As := [aI 1]) (dz := d) (mz := 0) (sz := 0) rfl wd_1_222 wd_1_224 wd_p_1 cf_X11_refuse (Nat.le_refl _) (Nat.zero_le _) (Nat.zero_le _) (cat_ok (Nat.le_of_ble_eq_true rfl)) rfl rfl ha_r2 dX11_match_23 hf (fun r2 σ1 hk => ?_)
  replace hf := hk
  clear hk
  exact r_ireturn rfl dX11_match_26 rfl ⟨_, rfl, hf⟩
def F_X11_match (l : Launch) (G : GG) (d : Nat) (v0 : Nat) (v1 : Int32) (v2 : Int32) (σ : Hp) (K : Int32 → Hp → Prop) : Prop :=
  fR σ v0 11 5 fun x3 =>
  (x3 = none →
    F_X11_match_21 l G d v0 σ K) ∧
  (∀ b4, x3 = some b4 →
    C_X11_isPlayer l G d v1 σ fun r6 σ5 =>
    (r6 = false →
      F_X11_match_21 l G d v0 σ5 K) ∧
    (r6 = true →
      C_X11_isPlayer l G d v2 σ5 fun r8 σ7 =>
      (r8 = true →
        fN σ7 v0 11 10 fun x9 =>
        fN σ7 v0 11 6 fun x10 =>
        fN σ7 v0 11 7 fun x11 =>
        C_X6_lengthOfMatch l G d x9 v1 v2 x10 x11 σ7 fun r13 σ12 =>
        C_X11_winnerBehind l G d v0 r13 σ12 fun r15 σ14 =>
        C_X11_accept l G d v0 r15 σ14 fun r17 σ16 =>
        K r17 σ16) ∧
      (r8 = false →
        F_X11_match_21 l G d v0 σ7 K)))
set_option maxRecDepth 100000 in
set_option maxHeartbeats 4000000 in
theorem b_X11_match_0 {l : Launch} {G : GG} {d : Nat} {v0 : Nat} {v1 : Int32} {v2 : Int32} {σ : Hp} {K : Int32 → Hp → Prop} (hf : F_X11_match l G d v0 v1 v2 σ K) : Wd l G (d + 1) "CoinsLaid" yX11_match cX11_match 3 (some FieldType.int) 0 [(0, aR (some v0)), (1, aI v1), (2, aI v2)] [] σ 0 0 (xM (QI K)) := by
  unfold F_X11_match at hf
  refine r_aload_n (j := 0) rfl rfl dX11_match_0 ?_
  obtain ⟨fs_x3, x3, ha_x3, hv_x3, hf⟩ := hf
  refine r_get (Cn := RX11) (Tt := TX11) (N := 12) (n := 5) rfl uw_X11 (Nat.le_of_ble_eq_true rfl) wd_1_178 ha_x3 hv_x3 dX11_match_1 ?_
  refine r_ifnull (o := x3) (tgt := 21) (by decide) dX11_match_4 (fun hc => ?_) (fun b4 hc => ?_)
  · replace hf := hf.1 hc
    subst hc
    exact r_sub [0] rfl (b_X11_match_21 hf)
  · replace hf := hf.2 b4 hc
    subst hc
    refine r_iload_n (j := 1) rfl rfl dX11_match_7 ?_
    try unfold C_X11_isPlayer at hf
    refine r_invSZ (As := [aI v1]) (dz := d) (mz := 0) (sz := 0) rfl wd_5_204 wd_5_205 cf_X11_isPlayer (Nat.le_refl _) (Nat.zero_le _) (Nat.zero_le _) (cat_ok (Nat.le_of_ble_eq_true rfl)) dX11_match_8 hf (fun r6 σ5 hk => ?_)
    replace hf := hk
    clear hk
    refine r_ifeqZ (b := r6) (tgt := 21) (by decide) dX11_match_11 (fun hc => ?_) (fun hc => ?_)
    · replace hf := hf.1 hc
      exact r_sub [0] rfl (b_X11_match_21 hf)
    · replace hf := hf.2 hc
      refine r_iload_n (j := 2) rfl rfl dX11_match_14 ?_
      try unfold C_X11_isPlayer at hf
      refine r_invSZ (As := [aI v2]) (dz := d) (mz := 0) (sz := 0) rfl wd_5_204 wd_5_205 cf_X11_isPlayer (Nat.le_refl _) (Nat.zero_le _) (Nat.zero_le _) (cat_ok (Nat.le_of_ble_eq_true rfl)) dX11_match_15 hf (fun r8 σ7 hk => ?_)
      replace hf := hk
      clear hk
      refine r_ifneZ (b := r8) (tgt := 27) (by decide) dX11_match_18 (fun hc => ?_) (fun hc => ?_)
      · replace hf := hf.1 hc
        refine r_aload_n (j := 0) rfl rfl dX11_match_27 ?_
        refine r_aload_n (j := 0) rfl rfl dX11_match_28 ?_
        refine r_aload_n (j := 0) rfl rfl dX11_match_29 ?_
        obtain ⟨fs_x9, x9, ha_x9, hv_x9, hf⟩ := hf
        refine r_get (Cn := RX11) (Tt := TX11) (N := 12) (n := 10) rfl uw_X11 (Nat.le_of_ble_eq_true rfl) wd_1_183 ha_x9 hv_x9 dX11_match_30 ?_
        refine r_iload_n (j := 1) rfl rfl dX11_match_33 ?_
        refine r_iload_n (j := 2) rfl rfl dX11_match_34 ?_
        refine r_aload_n (j := 0) rfl rfl dX11_match_35 ?_
        obtain ⟨fs_x10, x10, ha_x10, hv_x10, hf⟩ := hf
        refine r_get (Cn := RX11) (Tt := TX11) (N := 12) (n := 6) rfl uw_X11 (Nat.le_of_ble_eq_true rfl) wd_1_179 ha_x10 hv_x10 dX11_match_36 ?_
        refine r_aload_n (j := 0) rfl rfl dX11_match_39 ?_
        obtain ⟨fs_x11, x11, ha_x11, hv_x11, hf⟩ := hf
        refine r_get (Cn := RX11) (Tt := TX11) (N := 12) (n := 7) rfl uw_X11 (Nat.le_of_ble_eq_true rfl) wd_1_180 ha_x11 hv_x11 dX11_match_40 ?_
        try unfold C_X6_lengthOfMatch at hf
        obtain ⟨⟨fs_r13, ha_r13⟩, hf⟩ := hf
        refine r_invVI (t := 6) (As := [aI v1, aI v2, aR (some x10), aR (some x11)]) (dz := d) (mz := 0) (sz := 0) rfl wd_6_10 wd_6_11 wd_6_12 cf_X6_lengthOfMatch (Nat.le_refl _) (Nat.zero_le _) (Nat.zero_le _) (cat_ok (Nat.le_of_ble_eq_true rfl)) rfl rfl ha_r13 dX11_match_43 hf (fun r13 σ12 hk => ?_)
        replace hf := hk
        clear hk
        try unfold C_X11_winnerBehind at hf
        obtain ⟨⟨fs_r15, ha_r15⟩, hf⟩ := hf
        refine r_invVI (t := 11) (As := [aI r13]) (dz := d) (mz := 0) (sz := 0) rfl wd_6_15 wd_6_17 wd_p_44 cf_X11_winnerBehind (Nat.le_refl _) (Nat.zero_le _) (Nat.zero_le _) (cat_ok (Nat.le_of_ble_eq_true rfl)) rfl rfl ha_r15 dX11_match_46 hf (fun r15 σ14 hk => ?_)
        replace hf := hk
        clear hk
        try unfold C_X11_accept at hf
        obtain ⟨⟨fs_r17, ha_r17⟩, hf⟩ := hf
        refine r_invVI (t := 11) (As := [aI r15]) (dz := d) (mz := 0) (sz := 0) rfl wd_4_118 wd_4_120 wd_p_30 cf_X11_accept (Nat.le_refl _) (Nat.zero_le _) (Nat.zero_le _) (cat_ok (Nat.le_of_ble_eq_true rfl)) rfl rfl ha_r17 dX11_match_49 hf (fun r17 σ16 hk => ?_)
        replace hf := hk
        clear hk
        exact r_ireturn rfl dX11_match_52 rfl ⟨_, rfl, hf⟩
      · replace hf := hf.2 hc
        exact r_sub [0] rfl (b_X11_match_21 hf)
theorem m_X11_match {l : Launch} {G : GG} {d : Nat} {v0 : Nat} {v1 : Int32} {v2 : Int32} {σ : Hp} {K : Int32 → Hp → Prop} (hr : rv σ v0 11) (hf : F_X11_match l G d v0 v1 v2 σ K) : C_X11_match l G (d + 1) v0 v1 v2 σ K := ⟨hr, Sp.of (by decide) (Nat.le_of_ble_eq_true rfl) (b_X11_match_0 hf) rfl⟩
def F_X11_matchLong_21 (l : Launch) (G : GG) (d : Nat) (v0 : Nat) (σ : Hp) (K : Int32 → Hp → Prop) : Prop :=
  C_X11_refuse l G d v0 1 σ fun r2 σ1 =>
  K r2 σ1
set_option maxRecDepth 100000 in
set_option maxHeartbeats 4000000 in
theorem b_X11_matchLong_21 {l : Launch} {G : GG} {d : Nat} {v0 : Nat} {σ : Hp} {K : Int32 → Hp → Prop} (hf : F_X11_matchLong_21 l G d v0 σ K) : Wd l G (d + 1) "CoinsLaid" yX11_matchLong cX11_matchLong 3 (some FieldType.int) 21 [(0, aR (some v0))] [] σ 0 0 (xM (QI K)) := by
  unfold F_X11_matchLong_21 at hf
  refine r_aload_n (j := 0) rfl rfl dX11_matchLong_21 ?_
  refine r_iconst (v := 1) (by decide) dX11_matchLong_22 ?_
  try unfold C_X11_refuse at hf
  obtain ⟨⟨fs_r2, ha_r2⟩, hf⟩ := hf
  refine r_invVI (t := 11) (As := [aI 1]) (dz := d) (mz := 0) (sz := 0) rfl wd_1_222 wd_1_224 wd_p_1 cf_X11_refuse (Nat.le_refl _) (Nat.zero_le _) (Nat.zero_le _) (cat_ok (Nat.le_of_ble_eq_true rfl)) rfl rfl ha_r2 dX11_matchLong_23 hf (fun r2 σ1 hk => ?_)
  replace hf := hk
  clear hk
  exact r_ireturn rfl dX11_matchLong_26 rfl ⟨_, rfl, hf⟩
def F_X11_matchLong (l : Launch) (G : GG) (d : Nat) (v0 : Nat) (v1 : Int32) (v2 : Int32) (σ : Hp) (K : Int32 → Hp → Prop) : Prop :=
  fR σ v0 11 5 fun x3 =>
  (x3 = none →
    F_X11_matchLong_21 l G d v0 σ K) ∧
  (∀ b4, x3 = some b4 →
    C_X11_isPlayer l G d v1 σ fun r6 σ5 =>
    (r6 = false →
      F_X11_matchLong_21 l G d v0 σ5 K) ∧
    (r6 = true →
      C_X11_isPlayer l G d v2 σ5 fun r8 σ7 =>
      (r8 = true →
        fN σ7 v0 11 10 fun x9 =>
        fN σ7 v0 11 6 fun x10 =>
        fN σ7 v0 11 7 fun x11 =>
        C_X6_lengthOfMatch l G d x9 v1 v2 x10 x11 σ7 fun r13 σ12 =>
        C_X11_accept l G d v0 r13 σ12 fun r15 σ14 =>
        K r15 σ14) ∧
      (r8 = false →
        F_X11_matchLong_21 l G d v0 σ7 K)))
set_option maxRecDepth 100000 in
set_option maxHeartbeats 4000000 in
theorem b_X11_matchLong_0 {l : Launch} {G : GG} {d : Nat} {v0 : Nat} {v1 : Int32} {v2 : Int32} {σ : Hp} {K : Int32 → Hp → Prop} (hf : F_X11_matchLong l G d v0 v1 v2 σ K) : Wd l G (d + 1) "CoinsLaid" yX11_matchLong cX11_matchLong 3 (some FieldType.int) 0 [(0, aR (some v0)), (1, aI v1), (2, aI v2)] [] σ 0 0 (xM (QI K)) := by
  unfold F_X11_matchLong at hf
  refine r_aload_n (j := 0) rfl rfl dX11_matchLong_0 ?_
  obtain ⟨fs_x3, x3, ha_x3, hv_x3, hf⟩ := hf
  refine r_get (Cn := RX11) (Tt := TX11) (N := 12) (n := 5) rfl uw_X11 (Nat.le_of_ble_eq_true rfl) wd_1_178 ha_x3 hv_x3 dX11_matchLong_1 ?_
  refine r_ifnull (o := x3) (tgt := 21) (by decide) dX11_matchLong_4 (fun hc => ?_) (fun b4 hc => ?_)
  · replace hf := hf.1 hc
    subst hc
    exact r_sub [0] rfl (b_X11_matchLong_21 hf)
  · replace hf := hf.2 b4 hc
    subst hc
    refine r_iload_n (j := 1) rfl rfl dX11_matchLong_7 ?_
    try unfold C_X11_isPlayer at hf
    refine r_invSZ (As := [aI v1]) (dz := d) (mz := 0) (sz := 0) rfl wd_5_204 wd_5_205 cf_X11_isPlayer (Nat.le_refl _) (Nat.zero_le _) (Nat.zero_le _) (cat_ok (Nat.le_of_ble_eq_true rfl)) dX11_matchLong_8 hf (fun r6 σ5 hk => ?_)
    replace hf := hk
    clear hk
    refine r_ifeqZ (b := r6) (tgt := 21) (by decide) dX11_matchLong_11 (fun hc => ?_) (fun hc => ?_)
    · replace hf := hf.1 hc
      exact r_sub [0] rfl (b_X11_matchLong_21 hf)
    · replace hf := hf.2 hc
      refine r_iload_n (j := 2) rfl rfl dX11_matchLong_14 ?_
      try unfold C_X11_isPlayer at hf
      refine r_invSZ (As := [aI v2]) (dz := d) (mz := 0) (sz := 0) rfl wd_5_204 wd_5_205 cf_X11_isPlayer (Nat.le_refl _) (Nat.zero_le _) (Nat.zero_le _) (cat_ok (Nat.le_of_ble_eq_true rfl)) dX11_matchLong_15 hf (fun r8 σ7 hk => ?_)
      replace hf := hk
      clear hk
      refine r_ifneZ (b := r8) (tgt := 27) (by decide) dX11_matchLong_18 (fun hc => ?_) (fun hc => ?_)
      · replace hf := hf.1 hc
        refine r_aload_n (j := 0) rfl rfl dX11_matchLong_27 ?_
        refine r_aload_n (j := 0) rfl rfl dX11_matchLong_28 ?_
        obtain ⟨fs_x9, x9, ha_x9, hv_x9, hf⟩ := hf
        refine r_get (Cn := RX11) (Tt := TX11) (N := 12) (n := 10) rfl uw_X11 (Nat.le_of_ble_eq_true rfl) wd_1_183 ha_x9 hv_x9 dX11_matchLong_29 ?_
        refine r_iload_n (j := 1) rfl rfl dX11_matchLong_32 ?_
        refine r_iload_n (j := 2) rfl rfl dX11_matchLong_33 ?_
        refine r_aload_n (j := 0) rfl rfl dX11_matchLong_34 ?_
        obtain ⟨fs_x10, x10, ha_x10, hv_x10, hf⟩ := hf
        refine r_get (Cn := RX11) (Tt := TX11) (N := 12) (n := 6) rfl uw_X11 (Nat.le_of_ble_eq_true rfl) wd_1_179 ha_x10 hv_x10 dX11_matchLong_35 ?_
        refine r_aload_n (j := 0) rfl rfl dX11_matchLong_38 ?_
        obtain ⟨fs_x11, x11, ha_x11, hv_x11, hf⟩ := hf
        refine r_get (Cn := RX11) (Tt := TX11) (N := 12) (n := 7) rfl uw_X11 (Nat.le_of_ble_eq_true rfl) wd_1_180 ha_x11 hv_x11 dX11_matchLong_39 ?_
        try unfold C_X6_lengthOfMatch at hf
        obtain ⟨⟨fs_r13, ha_r13⟩, hf⟩ := hf
        refine r_invVI (t := 6) (As := [aI v1, aI v2, aR (some x10), aR (some x11)]) (dz := d) (mz := 0) (sz := 0) rfl wd_6_10 wd_6_11 wd_6_12 cf_X6_lengthOfMatch (Nat.le_refl _) (Nat.zero_le _) (Nat.zero_le _) (cat_ok (Nat.le_of_ble_eq_true rfl)) rfl rfl ha_r13 dX11_matchLong_42 hf (fun r13 σ12 hk => ?_)
        replace hf := hk
        clear hk
        try unfold C_X11_accept at hf
        obtain ⟨⟨fs_r15, ha_r15⟩, hf⟩ := hf
        refine r_invVI (t := 11) (As := [aI r13]) (dz := d) (mz := 0) (sz := 0) rfl wd_4_118 wd_4_120 wd_p_30 cf_X11_accept (Nat.le_refl _) (Nat.zero_le _) (Nat.zero_le _) (cat_ok (Nat.le_of_ble_eq_true rfl)) rfl rfl ha_r15 dX11_matchLong_45 hf (fun r15 σ14 hk => ?_)
        replace hf := hk
        clear hk
        exact r_ireturn rfl dX11_matchLong_48 rfl ⟨_, rfl, hf⟩
      · replace hf := hf.2 hc
        exact r_sub [0] rfl (b_X11_matchLong_21 hf)
theorem m_X11_matchLong {l : Launch} {G : GG} {d : Nat} {v0 : Nat} {v1 : Int32} {v2 : Int32} {σ : Hp} {K : Int32 → Hp → Prop} (hr : rv σ v0 11) (hf : F_X11_matchLong l G d v0 v1 v2 σ K) : C_X11_matchLong l G (d + 1) v0 v1 v2 σ K := ⟨hr, Sp.of (by decide) (Nat.le_of_ble_eq_true rfl) (b_X11_matchLong_0 hf) rfl⟩
def F_X11_beats_14 (l : Launch) (G : GG) (d : Nat) (v0 : Nat) (σ : Hp) (K : Int32 → Hp → Prop) : Prop :=
  C_X11_refuse l G d v0 1 σ fun r2 σ1 =>
  K r2 σ1
set_option maxRecDepth 100000 in
set_option maxHeartbeats 4000000 in
theorem b_X11_beats_14 {l : Launch} {G : GG} {d : Nat} {v0 : Nat} {σ : Hp} {K : Int32 → Hp → Prop} (hf : F_X11_beats_14 l G d v0 σ K) : Wd l G (d + 1) "CoinsLaid" yX11_beats cX11_beats 4 (some FieldType.int) 14 [(0, aR (some v0))] [] σ 0 0 (xM (QI K)) := by
  unfold F_X11_beats_14 at hf
  refine r_aload_n (j := 0) rfl rfl dX11_beats_14 ?_
  refine r_iconst (v := 1) (by decide) dX11_beats_15 ?_
  try unfold C_X11_refuse at hf
  obtain ⟨⟨fs_r2, ha_r2⟩, hf⟩ := hf
  refine r_invVI (t := 11) (As := [aI 1]) (dz := d) (mz := 0) (sz := 0) rfl wd_1_222 wd_1_224 wd_p_1 cf_X11_refuse (Nat.le_refl _) (Nat.zero_le _) (Nat.zero_le _) (cat_ok (Nat.le_of_ble_eq_true rfl)) rfl rfl ha_r2 dX11_beats_16 hf (fun r2 σ1 hk => ?_)
  replace hf := hk
  clear hk
  exact r_ireturn rfl dX11_beats_19 rfl ⟨_, rfl, hf⟩
def F_X11_beats_59 (l : Launch) (G : GG) (d : Nat) (X24 : Nat → Int32 → Int32 → Int32 → Hp → Prop) (v0 : Nat) (v1 : Int32) (v2 : Int32) (v3 : Int32) (σ : Hp) (K : Int32 → Hp → Prop) : Prop :=
  X24 v0 v1 v2 (v3 + 1) σ
set_option maxRecDepth 100000 in
set_option maxHeartbeats 4000000 in
theorem b_X11_beats_59 {l : Launch} {G : GG} {d : Nat} {X24 : Nat → Int32 → Int32 → Int32 → Hp → Prop} {v0 : Nat} {v1 : Int32} {v2 : Int32} {v3 : Int32} {σ : Hp} {K : Int32 → Hp → Prop} (hX24 : ∀ v0 v1 v2 v3 σ, X24 v0 v1 v2 v3 σ → Wd l G (d + 1) "CoinsLaid" yX11_beats cX11_beats 4 (some FieldType.int) 24 [(0, aR (some v0)), (1, aI v1), (2, aI v2), (3, aI v3)] [] σ 0 0 (xM (QI K))) (hf : F_X11_beats_59 l G d X24 v0 v1 v2 v3 σ K) : Wd l G (d + 1) "CoinsLaid" yX11_beats cX11_beats 4 (some FieldType.int) 59 [(0, aR (some v0)), (1, aI v1), (2, aI v2), (3, aI v3)] [] σ 0 0 (xM (QI K)) := by
  unfold F_X11_beats_59 at hf
  refine r_iinc (j := 3) (w := (v3 + 1)) (L' := [(3, aI (v3 + 1)), (0, aR (some v0)), (1, aI v1), (2, aI v2)]) rfl (by rfl) rfl (Nat.le_of_ble_eq_true rfl) dX11_beats_59 ?_
  refine r_goto (tgt := 24) (by decide) dX11_beats_62 ?_
  exact r_sub [1, 2, 3, 0] rfl (hX24 _ _ _ _ _ hf)
def F_X11_beats_24 (l : Launch) (G : GG) (d : Nat) (X24 : Nat → Int32 → Int32 → Int32 → Hp → Prop) (v0 : Nat) (v1 : Int32) (v2 : Int32) (v3 : Int32) (σ : Hp) (K : Int32 → Hp → Prop) : Prop :=
  ((5 : Int32) ≤ (v3 : Int32) →
    C_X11_accept l G d v0 v2 σ fun r4 σ3 =>
    K r4 σ3) ∧
  (¬ (5 : Int32) ≤ (v3 : Int32) →
    fN σ v0 11 10 fun x5 =>
    fN σ v0 11 6 fun x6 =>
    fN σ v0 11 7 fun x7 =>
    C_X6_lengthOfMatch l G d x5 v1 v3 x6 x7 σ fun r9 σ8 =>
    C_X11_winnerBehind l G d v0 r9 σ8 fun r11 σ10 =>
    (¬ (r11 : Int32) = 0 →
      F_X11_beats_59 l G d X24 v0 v1 v2 v3 σ10 K) ∧
    ((r11 : Int32) = 0 →
      F_X11_beats_59 l G d X24 v0 v1 (v2 ||| (1 <<< (v3 &&& 31))) v3 σ10 K))
set_option maxRecDepth 100000 in
set_option maxHeartbeats 4000000 in
theorem b_X11_beats_24 {l : Launch} {G : GG} {d : Nat} {X24 : Nat → Int32 → Int32 → Int32 → Hp → Prop} {v0 : Nat} {v1 : Int32} {v2 : Int32} {v3 : Int32} {σ : Hp} {K : Int32 → Hp → Prop} (hX24 : ∀ v0 v1 v2 v3 σ, X24 v0 v1 v2 v3 σ → Wd l G (d + 1) "CoinsLaid" yX11_beats cX11_beats 4 (some FieldType.int) 24 [(0, aR (some v0)), (1, aI v1), (2, aI v2), (3, aI v3)] [] σ 0 0 (xM (QI K))) (hf : F_X11_beats_24 l G d X24 v0 v1 v2 v3 σ K) : Wd l G (d + 1) "CoinsLaid" yX11_beats cX11_beats 4 (some FieldType.int) 24 [(0, aR (some v0)), (1, aI v1), (2, aI v2), (3, aI v3)] [] σ 0 0 (xM (QI K)) := by
  unfold F_X11_beats_24 at hf
  refine r_iload_n (j := 3) rfl rfl dX11_beats_24 ?_
  refine r_iconst (v := 5) (by decide) dX11_beats_25 ?_
  refine r_icmpge (x := v3) (y := 5) (tgt := 65) (by decide) dX11_beats_26 (fun hc => ?_) (fun hc => ?_)
  · replace hf := hf.1 hc
    refine r_aload_n (j := 0) rfl rfl dX11_beats_65 ?_
    refine r_iload_n (j := 2) rfl rfl dX11_beats_66 ?_
    try unfold C_X11_accept at hf
    obtain ⟨⟨fs_r4, ha_r4⟩, hf⟩ := hf
    refine r_invVI (t := 11) (As := [aI v2]) (dz := d) (mz := 0) (sz := 0) rfl wd_4_118 wd_4_120 wd_p_30 cf_X11_accept (Nat.le_refl _) (Nat.zero_le _) (Nat.zero_le _) (cat_ok (Nat.le_of_ble_eq_true rfl)) rfl rfl ha_r4 dX11_beats_67 hf (fun r4 σ3 hk => ?_)
    replace hf := hk
    clear hk
    exact r_ireturn rfl dX11_beats_70 rfl ⟨_, rfl, hf⟩
  · replace hf := hf.2 hc
    refine r_aload_n (j := 0) rfl rfl dX11_beats_29 ?_
    refine r_aload_n (j := 0) rfl rfl dX11_beats_30 ?_
    obtain ⟨fs_x5, x5, ha_x5, hv_x5, hf⟩ := hf
    refine r_get (Cn := RX11) (Tt := TX11) (N := 12) (n := 10) rfl uw_X11 (Nat.le_of_ble_eq_true rfl) wd_1_183 ha_x5 hv_x5 dX11_beats_31 ?_
    refine r_iload_n (j := 1) rfl rfl dX11_beats_34 ?_
    refine r_iload_n (j := 3) rfl rfl dX11_beats_35 ?_
    refine r_aload_n (j := 0) rfl rfl dX11_beats_36 ?_
    obtain ⟨fs_x6, x6, ha_x6, hv_x6, hf⟩ := hf
    refine r_get (Cn := RX11) (Tt := TX11) (N := 12) (n := 6) rfl uw_X11 (Nat.le_of_ble_eq_true rfl) wd_1_179 ha_x6 hv_x6 dX11_beats_37 ?_
    refine r_aload_n (j := 0) rfl rfl dX11_beats_40 ?_
    obtain ⟨fs_x7, x7, ha_x7, hv_x7, hf⟩ := hf
    refine r_get (Cn := RX11) (Tt := TX11) (N := 12) (n := 7) rfl uw_X11 (Nat.le_of_ble_eq_true rfl) wd_1_180 ha_x7 hv_x7 dX11_beats_41 ?_
    try unfold C_X6_lengthOfMatch at hf
    obtain ⟨⟨fs_r9, ha_r9⟩, hf⟩ := hf
    refine r_invVI (t := 6) (As := [aI v1, aI v3, aR (some x6), aR (some x7)]) (dz := d) (mz := 0) (sz := 0) rfl wd_6_10 wd_6_11 wd_6_12 cf_X6_lengthOfMatch (Nat.le_refl _) (Nat.zero_le _) (Nat.zero_le _) (cat_ok (Nat.le_of_ble_eq_true rfl)) rfl rfl ha_r9 dX11_beats_44 hf (fun r9 σ8 hk => ?_)
    replace hf := hk
    clear hk
    try unfold C_X11_winnerBehind at hf
    obtain ⟨⟨fs_r11, ha_r11⟩, hf⟩ := hf
    refine r_invVI (t := 11) (As := [aI r9]) (dz := d) (mz := 0) (sz := 0) rfl wd_6_15 wd_6_17 wd_p_44 cf_X11_winnerBehind (Nat.le_refl _) (Nat.zero_le _) (Nat.zero_le _) (cat_ok (Nat.le_of_ble_eq_true rfl)) rfl rfl ha_r11 dX11_beats_47 hf (fun r11 σ10 hk => ?_)
    replace hf := hk
    clear hk
    refine r_ifne (x := r11) (tgt := 59) (by decide) dX11_beats_50 (fun hc => ?_) (fun hc => ?_)
    · replace hf := hf.1 hc
      exact r_sub [0, 1, 2, 3] rfl (b_X11_beats_59 hX24 hf)
    · replace hf := hf.2 hc
      refine r_iload_n (j := 2) rfl rfl dX11_beats_53 ?_
      refine r_iconst (v := 1) (by decide) dX11_beats_54 ?_
      refine r_iload_n (j := 3) rfl rfl dX11_beats_55 ?_
      refine r_ishl (x := 1) (y := v3) dX11_beats_56 ?_
      refine r_ior (x := v2) (y := (1 <<< (v3 &&& 31))) dX11_beats_57 ?_
      refine r_istore_n (L' := [(2, aI (v2 ||| (1 <<< (v3 &&& 31)))), (0, aR (some v0)), (1, aI v1), (3, aI v3)]) rfl rfl (Nat.le_of_ble_eq_true rfl) dX11_beats_58 ?_
      exact r_sub [1, 2, 0, 3] rfl (b_X11_beats_59 hX24 hf)
def Z_X11_beats_24 (l : Launch) (G : GG) (d : Nat) (K : Int32 → Hp → Prop) : Nat → Nat → Int32 → Int32 → Int32 → Hp → Prop
  | 0 => fun _ _ _ _ _ => False
  | n + 1 => fun v0 v1 v2 v3 σ => F_X11_beats_24 l G d (Z_X11_beats_24 l G d K n) v0 v1 v2 v3 σ K
theorem z_X11_beats_24 {l : Launch} {G : GG} {d : Nat} {K : Int32 → Hp → Prop} : ∀ (n : Nat) v0 v1 v2 v3 σ, Z_X11_beats_24 l G d K n v0 v1 v2 v3 σ → Wd l G (d + 1) "CoinsLaid" yX11_beats cX11_beats 4 (some FieldType.int) 24 [(0, aR (some v0)), (1, aI v1), (2, aI v2), (3, aI v3)] [] σ 0 0 (xM (QI K)) := by
  intro n
  induction n with
  | zero => intro v0 v1 v2 v3 σ hf; exact hf.elim
  | succ n ih => intro v0 v1 v2 v3 σ hf; exact b_X11_beats_24 ih hf
def F_X11_beats (l : Launch) (G : GG) (d : Nat) (v0 : Nat) (v1 : Int32) (σ : Hp) (K : Int32 → Hp → Prop) : Prop :=
  fR σ v0 11 5 fun x12 =>
  (x12 = none →
    F_X11_beats_14 l G d v0 σ K) ∧
  (∀ b13, x12 = some b13 →
    C_X11_isPlayer l G d v1 σ fun r15 σ14 =>
    (r15 = true →
      ∃ n, Z_X11_beats_24 l G d K n v0 v1 0 0 σ14) ∧
    (r15 = false →
      F_X11_beats_14 l G d v0 σ14 K))
set_option maxRecDepth 100000 in
set_option maxHeartbeats 4000000 in
theorem b_X11_beats_0 {l : Launch} {G : GG} {d : Nat} {v0 : Nat} {v1 : Int32} {σ : Hp} {K : Int32 → Hp → Prop} (hf : F_X11_beats l G d v0 v1 σ K) : Wd l G (d + 1) "CoinsLaid" yX11_beats cX11_beats 4 (some FieldType.int) 0 [(0, aR (some v0)), (1, aI v1)] [] σ 0 0 (xM (QI K)) := by
  unfold F_X11_beats at hf
  refine r_aload_n (j := 0) rfl rfl dX11_beats_0 ?_
  obtain ⟨fs_x12, x12, ha_x12, hv_x12, hf⟩ := hf
  refine r_get (Cn := RX11) (Tt := TX11) (N := 12) (n := 5) rfl uw_X11 (Nat.le_of_ble_eq_true rfl) wd_1_178 ha_x12 hv_x12 dX11_beats_1 ?_
  refine r_ifnull (o := x12) (tgt := 14) (by decide) dX11_beats_4 (fun hc => ?_) (fun b13 hc => ?_)
  · replace hf := hf.1 hc
    subst hc
    exact r_sub [0] rfl (b_X11_beats_14 hf)
  · replace hf := hf.2 b13 hc
    subst hc
    refine r_iload_n (j := 1) rfl rfl dX11_beats_7 ?_
    try unfold C_X11_isPlayer at hf
    refine r_invSZ (As := [aI v1]) (dz := d) (mz := 0) (sz := 0) rfl wd_5_204 wd_5_205 cf_X11_isPlayer (Nat.le_refl _) (Nat.zero_le _) (Nat.zero_le _) (cat_ok (Nat.le_of_ble_eq_true rfl)) dX11_beats_8 hf (fun r15 σ14 hk => ?_)
    replace hf := hk
    clear hk
    refine r_ifneZ (b := r15) (tgt := 20) (by decide) dX11_beats_11 (fun hc => ?_) (fun hc => ?_)
    · replace hf := hf.1 hc
      refine r_iconst (v := 0) (by decide) dX11_beats_20 ?_
      refine r_istore_n (L' := [(2, aI 0), (0, aR (some v0)), (1, aI v1)]) rfl rfl (Nat.le_of_ble_eq_true rfl) dX11_beats_21 ?_
      refine r_iconst (v := 0) (by decide) dX11_beats_22 ?_
      refine r_istore_n (L' := [(3, aI 0), (2, aI 0), (0, aR (some v0)), (1, aI v1)]) rfl rfl (Nat.le_of_ble_eq_true rfl) dX11_beats_23 ?_
      obtain ⟨n, hf⟩ := hf
      exact r_sub [2, 3, 1, 0] rfl (z_X11_beats_24 n _ _ _ _ _ hf)
    · replace hf := hf.2 hc
      exact r_sub [0] rfl (b_X11_beats_14 hf)
theorem m_X11_beats {l : Launch} {G : GG} {d : Nat} {v0 : Nat} {v1 : Int32} {σ : Hp} {K : Int32 → Hp → Prop} (hr : rv σ v0 11) (hf : F_X11_beats l G d v0 v1 σ K) : C_X11_beats l G (d + 1) v0 v1 σ K := ⟨hr, Sp.of (by decide) (Nat.le_of_ble_eq_true rfl) (b_X11_beats_0 hf) rfl⟩
def F_X11_puts (l : Launch) (G : GG) (d : Nat) (v0 : Nat) (v1 : Int32) (σ : Hp) (K : Bool → Hp → Prop) : Prop :=
  C_X11_layNumbered l G d v0 v1 σ fun r2 σ1 =>
  (∀ b3, r2 = some b3 →
    fN σ1 v0 11 7 fun x4 =>
    fI σ1 x4 1 2 fun x5 =>
    fN σ1 v0 11 7 fun x6 =>
    C_X1_next l G d x6 σ1 fun r8 σ7 =>
    C_X2_mayBe l G d b3 x5 r8 σ7 fun r10 σ9 =>
    (r10 = true →
      fN σ9 v0 11 9 fun x11 =>
      fN σ9 v0 11 7 fun x12 =>
      C_X4_keep l G d x11 x12 σ9 fun σ13 =>
      fN σ13 v0 11 7 fun x15 =>
      C_X1_add l G d x15 (some b3) σ13 fun σ16 =>
      C_X11_grant l G d v0 σ16 fun r19 σ18 =>
      K r19 σ18) ∧
    (r10 = false →
      C_X11_deny l G d v0 5 σ9 fun r21 σ20 =>
      K r21 σ20)) ∧
  (r2 = none →
    C_X11_deny l G d v0 1 σ1 fun r23 σ22 =>
    K r23 σ22)
set_option maxRecDepth 100000 in
set_option maxHeartbeats 4000000 in
theorem b_X11_puts_0 {l : Launch} {G : GG} {d : Nat} {v0 : Nat} {v1 : Int32} {σ : Hp} {K : Bool → Hp → Prop} (hf : F_X11_puts l G d v0 v1 σ K) : Wd l G (d + 1) "CoinsLaid" yX11_puts cX11_puts 3 (some FieldType.boolean) 0 [(0, aR (some v0)), (1, aI v1)] [] σ 0 0 (xM (QZ K)) := by
  unfold F_X11_puts at hf
  refine r_aload_n (j := 0) rfl rfl dX11_puts_0 ?_
  refine r_iload_n (j := 1) rfl rfl dX11_puts_1 ?_
  try unfold C_X11_layNumbered at hf
  obtain ⟨⟨fs_r2, ha_r2⟩, hf⟩ := hf
  refine r_invVR (t := 11) (As := [aI v1]) (dz := d) (mz := 0) (sz := 0) rfl wd_4_134 wd_4_136 wd_p_31 cf_X11_layNumbered (Nat.le_refl _) (Nat.zero_le _) (Nat.zero_le _) (cat_ok (Nat.le_of_ble_eq_true rfl)) rfl rfl ha_r2 dX11_puts_2 hf (fun r2 σ1 hk => ?_)
  replace hf := hk
  clear hk
  refine r_astore_n (L' := [(2, aR r2), (0, aR (some v0)), (1, aI v1)]) rfl rfl (Nat.le_of_ble_eq_true rfl) dX11_puts_5 ?_
  refine r_aload_n (j := 0) rfl rfl dX11_puts_6 ?_
  refine r_ifnonnull (o := r2) (tgt := 16) (by decide) dX11_puts_7 (fun b3 hc => ?_) (fun hc => ?_)
  · replace hf := hf.1 b3 hc
    subst hc
    refine r_aload_n (j := 0) rfl rfl dX11_puts_16 ?_
    refine r_aload_n (j := 1) rfl rfl dX11_puts_17 ?_
    obtain ⟨fs_x4, x4, ha_x4, hv_x4, hf⟩ := hf
    refine r_get (Cn := RX11) (Tt := TX11) (N := 12) (n := 7) rfl uw_X11 (Nat.le_of_ble_eq_true rfl) wd_1_180 ha_x4 hv_x4 dX11_puts_18 ?_
    obtain ⟨fs_x5, x5, ha_x5, hv_x5, hf⟩ := hf
    refine r_get (Cn := RX1) (Tt := TX1) (N := 4) (n := 2) rfl uw_X1 (Nat.le_of_ble_eq_true rfl) wd_1_97 ha_x5 hv_x5 dX11_puts_21 ?_
    refine r_aload_n (j := 1) rfl rfl dX11_puts_24 ?_
    obtain ⟨fs_x6, x6, ha_x6, hv_x6, hf⟩ := hf
    refine r_get (Cn := RX11) (Tt := TX11) (N := 12) (n := 7) rfl uw_X11 (Nat.le_of_ble_eq_true rfl) wd_1_180 ha_x6 hv_x6 dX11_puts_25 ?_
    try unfold C_X1_next at hf
    obtain ⟨⟨fs_r8, ha_r8⟩, hf⟩ := hf
    refine r_invVI (t := 1) (As := []) (dz := d) (mz := 0) (sz := 0) rfl wd_4_170 wd_4_75 wd_4_76 cf_X1_next (Nat.le_refl _) (Nat.zero_le _) (Nat.zero_le _) (cat_ok (Nat.le_of_ble_eq_true rfl)) rfl rfl ha_r8 dX11_puts_28 hf (fun r8 σ7 hk => ?_)
    replace hf := hk
    clear hk
    try unfold C_X2_mayBe at hf
    obtain ⟨⟨fs_r10, ha_r10⟩, hf⟩ := hf
    refine r_invVZ (t := 2) (As := [aI x5, aI r8]) (dz := d) (mz := 0) (sz := 0) rfl wd_4_171 wd_4_79 wd_4_80 cf_X2_mayBe (Nat.le_refl _) (Nat.zero_le _) (Nat.zero_le _) (cat_ok (Nat.le_of_ble_eq_true rfl)) rfl rfl ha_r10 dX11_puts_31 hf (fun r10 σ9 hk => ?_)
    replace hf := hk
    clear hk
    refine r_ifneZ (b := r10) (tgt := 43) (by decide) dX11_puts_34 (fun hc => ?_) (fun hc => ?_)
    · replace hf := hf.1 hc
      refine r_aload_n (j := 1) rfl rfl dX11_puts_43 ?_
      obtain ⟨fs_x11, x11, ha_x11, hv_x11, hf⟩ := hf
      refine r_get (Cn := RX11) (Tt := TX11) (N := 12) (n := 9) rfl uw_X11 (Nat.le_of_ble_eq_true rfl) wd_1_182 ha_x11 hv_x11 dX11_puts_44 ?_
      refine r_aload_n (j := 1) rfl rfl dX11_puts_47 ?_
      obtain ⟨fs_x12, x12, ha_x12, hv_x12, hf⟩ := hf
      refine r_get (Cn := RX11) (Tt := TX11) (N := 12) (n := 7) rfl uw_X11 (Nat.le_of_ble_eq_true rfl) wd_1_180 ha_x12 hv_x12 dX11_puts_48 ?_
      try unfold C_X4_keep at hf
      obtain ⟨⟨fs_r14, ha_r14⟩, hf⟩ := hf
      refine r_invVU (t := 4) (As := [aR (some x12)]) (dz := d) (mz := 0) (sz := 0) rfl wd_6_35 wd_6_36 wd_6_37 cf_X4_keep (Nat.le_refl _) (Nat.zero_le _) (Nat.zero_le _) (cat_ok (Nat.le_of_ble_eq_true rfl)) rfl rfl ha_r14 dX11_puts_51 hf (fun σ13 hk => ?_)
      replace hf := hk
      clear hk
      refine r_aload_n (j := 1) rfl rfl dX11_puts_54 ?_
      obtain ⟨fs_x15, x15, ha_x15, hv_x15, hf⟩ := hf
      refine r_get (Cn := RX11) (Tt := TX11) (N := 12) (n := 7) rfl uw_X11 (Nat.le_of_ble_eq_true rfl) wd_1_180 ha_x15 hv_x15 dX11_puts_55 ?_
      refine r_aload_n (j := 0) rfl rfl dX11_puts_58 ?_
      try unfold C_X1_add at hf
      obtain ⟨⟨fs_r17, ha_r17⟩, hf⟩ := hf
      refine r_invVU (t := 1) (As := [aR (some b3)]) (dz := d) (mz := 0) (sz := 0) rfl wd_6_41 wd_4_87 wd_4_88 cf_X1_add (Nat.le_refl _) (Nat.zero_le _) (Nat.zero_le _) (cat_ok (Nat.le_of_ble_eq_true rfl)) rfl rfl ha_r17 dX11_puts_59 hf (fun σ16 hk => ?_)
      replace hf := hk
      clear hk
      refine r_aload_n (j := 1) rfl rfl dX11_puts_62 ?_
      try unfold C_X11_grant at hf
      obtain ⟨⟨fs_r19, ha_r19⟩, hf⟩ := hf
      refine r_invVZ (t := 11) (As := []) (dz := d) (mz := 0) (sz := 0) rfl wd_6_42 wd_6_44 wd_p_46 cf_X11_grant (Nat.le_refl _) (Nat.zero_le _) (Nat.zero_le _) (cat_ok (Nat.le_of_ble_eq_true rfl)) rfl rfl ha_r19 dX11_puts_63 hf (fun r19 σ18 hk => ?_)
      replace hf := hk
      clear hk
      exact r_zreturn (b := r19) rfl dX11_puts_66 rfl ⟨_, rfl, hf⟩
    · replace hf := hf.2 hc
      refine r_aload_n (j := 1) rfl rfl dX11_puts_37 ?_
      refine r_iconst (v := 5) (by decide) dX11_puts_38 ?_
      try unfold C_X11_deny at hf
      obtain ⟨⟨fs_r21, ha_r21⟩, hf⟩ := hf
      refine r_invVZ (t := 11) (As := [aI 5]) (dz := d) (mz := 0) (sz := 0) rfl wd_6_31 wd_6_33 wd_p_45 cf_X11_deny (Nat.le_refl _) (Nat.zero_le _) (Nat.zero_le _) (cat_ok (Nat.le_of_ble_eq_true rfl)) rfl rfl ha_r21 dX11_puts_39 hf (fun r21 σ20 hk => ?_)
      replace hf := hk
      clear hk
      exact r_zreturn (b := r21) rfl dX11_puts_42 rfl ⟨_, rfl, hf⟩
  · replace hf := hf.2 hc
    subst hc
    refine r_aload_n (j := 1) rfl rfl dX11_puts_10 ?_
    refine r_iconst (v := 1) (by decide) dX11_puts_11 ?_
    try unfold C_X11_deny at hf
    obtain ⟨⟨fs_r23, ha_r23⟩, hf⟩ := hf
    refine r_invVZ (t := 11) (As := [aI 1]) (dz := d) (mz := 0) (sz := 0) rfl wd_6_31 wd_6_33 wd_p_45 cf_X11_deny (Nat.le_refl _) (Nat.zero_le _) (Nat.zero_le _) (cat_ok (Nat.le_of_ble_eq_true rfl)) rfl rfl ha_r23 dX11_puts_12 hf (fun r23 σ22 hk => ?_)
    replace hf := hk
    clear hk
    exact r_zreturn (b := r23) rfl dX11_puts_15 rfl ⟨_, rfl, hf⟩
theorem m_X11_puts {l : Launch} {G : GG} {d : Nat} {v0 : Nat} {v1 : Int32} {σ : Hp} {K : Bool → Hp → Prop} (hr : rv σ v0 11) (hf : F_X11_puts l G d v0 v1 σ K) : C_X11_puts l G (d + 1) v0 v1 σ K := ⟨hr, Sp.of (by decide) (Nat.le_of_ble_eq_true rfl) (b_X11_puts_0 hf) rfl⟩
def F_X11_takes (l : Launch) (G : GG) (d : Nat) (v0 : Nat) (σ : Hp) (K : Int32 → Hp → Prop) : Prop :=
  fR σ v0 11 5 fun x1 =>
  (∀ b2, x1 = some b2 →
    fN σ v0 11 7 fun x3 =>
    C_X1_latest l G d x3 σ fun r5 σ4 =>
    (∀ b6, r5 = some b6 →
      fN σ4 v0 11 9 fun x7 =>
      fN σ4 v0 11 7 fun x8 =>
      C_X4_keep l G d x7 x8 σ4 fun σ9 =>
      fN σ9 v0 11 7 fun x11 =>
      C_X1_dropLatest l G d x11 σ9 fun σ12 =>
      fI σ12 b6 2 0 fun x14 =>
      C_X11_accept l G d v0 x14 σ12 fun r16 σ15 =>
      K r16 σ15) ∧
    (r5 = none →
      C_X11_refuse l G d v0 6 σ4 fun r18 σ17 =>
      K r18 σ17)) ∧
  (x1 = none →
    C_X11_refuse l G d v0 1 σ fun r20 σ19 =>
    K r20 σ19)
set_option maxRecDepth 100000 in
set_option maxHeartbeats 4000000 in
theorem b_X11_takes_0 {l : Launch} {G : GG} {d : Nat} {v0 : Nat} {σ : Hp} {K : Int32 → Hp → Prop} (hf : F_X11_takes l G d v0 σ K) : Wd l G (d + 1) "CoinsLaid" yX11_takes cX11_takes 2 (some FieldType.int) 0 [(0, aR (some v0))] [] σ 0 0 (xM (QI K)) := by
  unfold F_X11_takes at hf
  refine r_aload_n (j := 0) rfl rfl dX11_takes_0 ?_
  obtain ⟨fs_x1, x1, ha_x1, hv_x1, hf⟩ := hf
  refine r_get (Cn := RX11) (Tt := TX11) (N := 12) (n := 5) rfl uw_X11 (Nat.le_of_ble_eq_true rfl) wd_1_178 ha_x1 hv_x1 dX11_takes_1 ?_
  refine r_ifnonnull (o := x1) (tgt := 13) (by decide) dX11_takes_4 (fun b2 hc => ?_) (fun hc => ?_)
  · replace hf := hf.1 b2 hc
    subst hc
    refine r_aload_n (j := 0) rfl rfl dX11_takes_13 ?_
    obtain ⟨fs_x3, x3, ha_x3, hv_x3, hf⟩ := hf
    refine r_get (Cn := RX11) (Tt := TX11) (N := 12) (n := 7) rfl uw_X11 (Nat.le_of_ble_eq_true rfl) wd_1_180 ha_x3 hv_x3 dX11_takes_14 ?_
    try unfold C_X1_latest at hf
    obtain ⟨⟨fs_r5, ha_r5⟩, hf⟩ := hf
    refine r_invVR (t := 1) (As := []) (dz := d) (mz := 0) (sz := 0) rfl wd_6_50 wd_5_227 wd_5_228 cf_X1_latest (Nat.le_refl _) (Nat.zero_le _) (Nat.zero_le _) (cat_ok (Nat.le_of_ble_eq_true rfl)) rfl rfl ha_r5 dX11_takes_17 hf (fun r5 σ4 hk => ?_)
    replace hf := hk
    clear hk
    refine r_astore_n (L' := [(1, aR r5), (0, aR (some v0))]) rfl rfl (Nat.le_of_ble_eq_true rfl) dX11_takes_20 ?_
    refine r_aload_n (j := 0) rfl rfl dX11_takes_21 ?_
    refine r_ifnonnull (o := r5) (tgt := 32) (by decide) dX11_takes_22 (fun b6 hc => ?_) (fun hc => ?_)
    · replace hf := hf.1 b6 hc
      subst hc
      refine r_aload_n (j := 1) rfl rfl dX11_takes_32 ?_
      obtain ⟨fs_x7, x7, ha_x7, hv_x7, hf⟩ := hf
      refine r_get (Cn := RX11) (Tt := TX11) (N := 12) (n := 9) rfl uw_X11 (Nat.le_of_ble_eq_true rfl) wd_1_182 ha_x7 hv_x7 dX11_takes_33 ?_
      refine r_aload_n (j := 1) rfl rfl dX11_takes_36 ?_
      obtain ⟨fs_x8, x8, ha_x8, hv_x8, hf⟩ := hf
      refine r_get (Cn := RX11) (Tt := TX11) (N := 12) (n := 7) rfl uw_X11 (Nat.le_of_ble_eq_true rfl) wd_1_180 ha_x8 hv_x8 dX11_takes_37 ?_
      try unfold C_X4_keep at hf
      obtain ⟨⟨fs_r10, ha_r10⟩, hf⟩ := hf
      refine r_invVU (t := 4) (As := [aR (some x8)]) (dz := d) (mz := 0) (sz := 0) rfl wd_6_35 wd_6_36 wd_6_37 cf_X4_keep (Nat.le_refl _) (Nat.zero_le _) (Nat.zero_le _) (cat_ok (Nat.le_of_ble_eq_true rfl)) rfl rfl ha_r10 dX11_takes_40 hf (fun σ9 hk => ?_)
      replace hf := hk
      clear hk
      refine r_aload_n (j := 1) rfl rfl dX11_takes_43 ?_
      obtain ⟨fs_x11, x11, ha_x11, hv_x11, hf⟩ := hf
      refine r_get (Cn := RX11) (Tt := TX11) (N := 12) (n := 7) rfl uw_X11 (Nat.le_of_ble_eq_true rfl) wd_1_180 ha_x11 hv_x11 dX11_takes_44 ?_
      try unfold C_X1_dropLatest at hf
      obtain ⟨⟨fs_r13, ha_r13⟩, hf⟩ := hf
      refine r_invVU (t := 1) (As := []) (dz := d) (mz := 0) (sz := 0) rfl wd_6_51 wd_6_52 wd_6_53 cf_X1_dropLatest (Nat.le_refl _) (Nat.zero_le _) (Nat.zero_le _) (cat_ok (Nat.le_of_ble_eq_true rfl)) rfl rfl ha_r13 dX11_takes_47 hf (fun σ12 hk => ?_)
      replace hf := hk
      clear hk
      refine r_aload_n (j := 1) rfl rfl dX11_takes_50 ?_
      refine r_aload_n (j := 0) rfl rfl dX11_takes_51 ?_
      obtain ⟨fs_x14, x14, ha_x14, hv_x14, hf⟩ := hf
      refine r_get (Cn := RX2) (Tt := TX2) (N := 9) (n := 0) rfl uw_X2 (Nat.le_of_ble_eq_true rfl) wd_4_20 ha_x14 hv_x14 dX11_takes_52 ?_
      try unfold C_X11_accept at hf
      obtain ⟨⟨fs_r16, ha_r16⟩, hf⟩ := hf
      refine r_invVI (t := 11) (As := [aI x14]) (dz := d) (mz := 0) (sz := 0) rfl wd_4_118 wd_4_120 wd_p_30 cf_X11_accept (Nat.le_refl _) (Nat.zero_le _) (Nat.zero_le _) (cat_ok (Nat.le_of_ble_eq_true rfl)) rfl rfl ha_r16 dX11_takes_55 hf (fun r16 σ15 hk => ?_)
      replace hf := hk
      clear hk
      exact r_ireturn rfl dX11_takes_58 rfl ⟨_, rfl, hf⟩
    · replace hf := hf.2 hc
      subst hc
      refine r_aload_n (j := 1) rfl rfl dX11_takes_25 ?_
      refine r_bipush (v := 6) (by decide) dX11_takes_26 ?_
      try unfold C_X11_refuse at hf
      obtain ⟨⟨fs_r18, ha_r18⟩, hf⟩ := hf
      refine r_invVI (t := 11) (As := [aI 6]) (dz := d) (mz := 0) (sz := 0) rfl wd_1_222 wd_1_224 wd_p_1 cf_X11_refuse (Nat.le_refl _) (Nat.zero_le _) (Nat.zero_le _) (cat_ok (Nat.le_of_ble_eq_true rfl)) rfl rfl ha_r18 dX11_takes_28 hf (fun r18 σ17 hk => ?_)
      replace hf := hk
      clear hk
      exact r_ireturn rfl dX11_takes_31 rfl ⟨_, rfl, hf⟩
  · replace hf := hf.2 hc
    subst hc
    refine r_aload_n (j := 0) rfl rfl dX11_takes_7 ?_
    refine r_iconst (v := 1) (by decide) dX11_takes_8 ?_
    try unfold C_X11_refuse at hf
    obtain ⟨⟨fs_r20, ha_r20⟩, hf⟩ := hf
    refine r_invVI (t := 11) (As := [aI 1]) (dz := d) (mz := 0) (sz := 0) rfl wd_1_222 wd_1_224 wd_p_1 cf_X11_refuse (Nat.le_refl _) (Nat.zero_le _) (Nat.zero_le _) (cat_ok (Nat.le_of_ble_eq_true rfl)) rfl rfl ha_r20 dX11_takes_9 hf (fun r20 σ19 hk => ?_)
    replace hf := hk
    clear hk
    exact r_ireturn rfl dX11_takes_12 rfl ⟨_, rfl, hf⟩
theorem m_X11_takes {l : Launch} {G : GG} {d : Nat} {v0 : Nat} {σ : Hp} {K : Int32 → Hp → Prop} (hr : rv σ v0 11) (hf : F_X11_takes l G d v0 σ K) : C_X11_takes l G (d + 1) v0 σ K := ⟨hr, Sp.of (by decide) (Nat.le_of_ble_eq_true rfl) (b_X11_takes_0 hf) rfl⟩
def F_X11_plays_14 (l : Launch) (G : GG) (d : Nat) (v0 : Nat) (σ : Hp) (K : Int32 → Hp → Prop) : Prop :=
  C_X11_refuse l G d v0 1 σ fun r2 σ1 =>
  K r2 σ1
set_option maxRecDepth 100000 in
set_option maxHeartbeats 4000000 in
theorem b_X11_plays_14 {l : Launch} {G : GG} {d : Nat} {v0 : Nat} {σ : Hp} {K : Int32 → Hp → Prop} (hf : F_X11_plays_14 l G d v0 σ K) : Wd l G (d + 1) "CoinsLaid" yX11_plays cX11_plays 3 (some FieldType.int) 14 [(0, aR (some v0))] [] σ 0 0 (xM (QI K)) := by
  unfold F_X11_plays_14 at hf
  refine r_aload_n (j := 0) rfl rfl dX11_plays_14 ?_
  refine r_iconst (v := 1) (by decide) dX11_plays_15 ?_
  try unfold C_X11_refuse at hf
  obtain ⟨⟨fs_r2, ha_r2⟩, hf⟩ := hf
  refine r_invVI (t := 11) (As := [aI 1]) (dz := d) (mz := 0) (sz := 0) rfl wd_1_222 wd_1_224 wd_p_1 cf_X11_refuse (Nat.le_refl _) (Nat.zero_le _) (Nat.zero_le _) (cat_ok (Nat.le_of_ble_eq_true rfl)) rfl rfl ha_r2 dX11_plays_16 hf (fun r2 σ1 hk => ?_)
  replace hf := hk
  clear hk
  exact r_ireturn rfl dX11_plays_19 rfl ⟨_, rfl, hf⟩
def F_X11_plays (l : Launch) (G : GG) (d : Nat) (v0 : Nat) (v1 : Int32) (σ : Hp) (K : Int32 → Hp → Prop) : Prop :=
  fR σ v0 11 5 fun x3 =>
  (x3 = none →
    F_X11_plays_14 l G d v0 σ K) ∧
  (∀ b4, x3 = some b4 →
    C_X11_isPlayer l G d v1 σ fun r6 σ5 =>
    (r6 = true →
      C_X11_isOver l G d v0 σ5 fun r8 σ7 =>
      (r8 = false →
        fN σ7 v0 11 9 fun x9 =>
        fN σ7 v0 11 7 fun x10 =>
        C_X4_keep l G d x9 x10 σ7 fun σ11 =>
        fN σ11 v0 11 10 fun x13 =>
        fN σ11 v0 11 6 fun x14 =>
        fN σ11 v0 11 7 fun x15 =>
        C_X6_choose l G d x13 v1 x14 x15 σ11 fun r17 σ16 =>
        fN σ16 v0 11 7 fun x18 =>
        C_X1_add l G d x18 r17 σ16 fun σ19 =>
        C_X11_numberOf l G d r17 σ19 fun r22 σ21 =>
        C_X11_accept l G d v0 r22 σ21 fun r24 σ23 =>
        K r24 σ23) ∧
      (r8 = true →
        C_X11_refuse l G d v0 6 σ7 fun r26 σ25 =>
        K r26 σ25)) ∧
    (r6 = false →
      F_X11_plays_14 l G d v0 σ5 K))
set_option maxRecDepth 100000 in
set_option maxHeartbeats 4000000 in
theorem b_X11_plays_0 {l : Launch} {G : GG} {d : Nat} {v0 : Nat} {v1 : Int32} {σ : Hp} {K : Int32 → Hp → Prop} (hf : F_X11_plays l G d v0 v1 σ K) : Wd l G (d + 1) "CoinsLaid" yX11_plays cX11_plays 3 (some FieldType.int) 0 [(0, aR (some v0)), (1, aI v1)] [] σ 0 0 (xM (QI K)) := by
  unfold F_X11_plays at hf
  refine r_aload_n (j := 0) rfl rfl dX11_plays_0 ?_
  obtain ⟨fs_x3, x3, ha_x3, hv_x3, hf⟩ := hf
  refine r_get (Cn := RX11) (Tt := TX11) (N := 12) (n := 5) rfl uw_X11 (Nat.le_of_ble_eq_true rfl) wd_1_178 ha_x3 hv_x3 dX11_plays_1 ?_
  refine r_ifnull (o := x3) (tgt := 14) (by decide) dX11_plays_4 (fun hc => ?_) (fun b4 hc => ?_)
  · replace hf := hf.1 hc
    subst hc
    exact r_sub [0] rfl (b_X11_plays_14 hf)
  · replace hf := hf.2 b4 hc
    subst hc
    refine r_iload_n (j := 1) rfl rfl dX11_plays_7 ?_
    try unfold C_X11_isPlayer at hf
    refine r_invSZ (As := [aI v1]) (dz := d) (mz := 0) (sz := 0) rfl wd_5_204 wd_5_205 cf_X11_isPlayer (Nat.le_refl _) (Nat.zero_le _) (Nat.zero_le _) (cat_ok (Nat.le_of_ble_eq_true rfl)) dX11_plays_8 hf (fun r6 σ5 hk => ?_)
    replace hf := hk
    clear hk
    refine r_ifneZ (b := r6) (tgt := 20) (by decide) dX11_plays_11 (fun hc => ?_) (fun hc => ?_)
    · replace hf := hf.1 hc
      refine r_aload_n (j := 0) rfl rfl dX11_plays_20 ?_
      try unfold C_X11_isOver at hf
      obtain ⟨⟨fs_r8, ha_r8⟩, hf⟩ := hf
      refine r_invVZ (t := 11) (As := []) (dz := d) (mz := 0) (sz := 0) rfl wd_4_210 wd_4_212 wd_p_32 cf_X11_isOver (Nat.le_refl _) (Nat.zero_le _) (Nat.zero_le _) (cat_ok (Nat.le_of_ble_eq_true rfl)) rfl rfl ha_r8 dX11_plays_21 hf (fun r8 σ7 hk => ?_)
      replace hf := hk
      clear hk
      refine r_ifeqZ (b := r8) (tgt := 34) (by decide) dX11_plays_24 (fun hc => ?_) (fun hc => ?_)
      · replace hf := hf.1 hc
        refine r_aload_n (j := 0) rfl rfl dX11_plays_34 ?_
        obtain ⟨fs_x9, x9, ha_x9, hv_x9, hf⟩ := hf
        refine r_get (Cn := RX11) (Tt := TX11) (N := 12) (n := 9) rfl uw_X11 (Nat.le_of_ble_eq_true rfl) wd_1_182 ha_x9 hv_x9 dX11_plays_35 ?_
        refine r_aload_n (j := 0) rfl rfl dX11_plays_38 ?_
        obtain ⟨fs_x10, x10, ha_x10, hv_x10, hf⟩ := hf
        refine r_get (Cn := RX11) (Tt := TX11) (N := 12) (n := 7) rfl uw_X11 (Nat.le_of_ble_eq_true rfl) wd_1_180 ha_x10 hv_x10 dX11_plays_39 ?_
        try unfold C_X4_keep at hf
        obtain ⟨⟨fs_r12, ha_r12⟩, hf⟩ := hf
        refine r_invVU (t := 4) (As := [aR (some x10)]) (dz := d) (mz := 0) (sz := 0) rfl wd_6_35 wd_6_36 wd_6_37 cf_X4_keep (Nat.le_refl _) (Nat.zero_le _) (Nat.zero_le _) (cat_ok (Nat.le_of_ble_eq_true rfl)) rfl rfl ha_r12 dX11_plays_42 hf (fun σ11 hk => ?_)
        replace hf := hk
        clear hk
        refine r_aload_n (j := 0) rfl rfl dX11_plays_45 ?_
        obtain ⟨fs_x13, x13, ha_x13, hv_x13, hf⟩ := hf
        refine r_get (Cn := RX11) (Tt := TX11) (N := 12) (n := 10) rfl uw_X11 (Nat.le_of_ble_eq_true rfl) wd_1_183 ha_x13 hv_x13 dX11_plays_46 ?_
        refine r_iload_n (j := 1) rfl rfl dX11_plays_49 ?_
        refine r_aload_n (j := 0) rfl rfl dX11_plays_50 ?_
        obtain ⟨fs_x14, x14, ha_x14, hv_x14, hf⟩ := hf
        refine r_get (Cn := RX11) (Tt := TX11) (N := 12) (n := 6) rfl uw_X11 (Nat.le_of_ble_eq_true rfl) wd_1_179 ha_x14 hv_x14 dX11_plays_51 ?_
        refine r_aload_n (j := 0) rfl rfl dX11_plays_54 ?_
        obtain ⟨fs_x15, x15, ha_x15, hv_x15, hf⟩ := hf
        refine r_get (Cn := RX11) (Tt := TX11) (N := 12) (n := 7) rfl uw_X11 (Nat.le_of_ble_eq_true rfl) wd_1_180 ha_x15 hv_x15 dX11_plays_55 ?_
        try unfold C_X6_choose at hf
        obtain ⟨⟨fs_r17, ha_r17⟩, hf⟩ := hf
        refine r_invVR (t := 6) (As := [aI v1, aR (some x14), aR (some x15)]) (dz := d) (mz := 0) (sz := 0) rfl wd_6_60 wd_5_213 wd_5_214 cf_X6_choose (Nat.le_refl _) (Nat.zero_le _) (Nat.zero_le _) (cat_ok (Nat.le_of_ble_eq_true rfl)) rfl rfl ha_r17 dX11_plays_58 hf (fun r17 σ16 hk => ?_)
        replace hf := hk
        clear hk
        refine r_astore_n (L' := [(2, aR r17), (0, aR (some v0)), (1, aI v1)]) rfl rfl (Nat.le_of_ble_eq_true rfl) dX11_plays_61 ?_
        refine r_aload_n (j := 1) rfl rfl dX11_plays_62 ?_
        obtain ⟨fs_x18, x18, ha_x18, hv_x18, hf⟩ := hf
        refine r_get (Cn := RX11) (Tt := TX11) (N := 12) (n := 7) rfl uw_X11 (Nat.le_of_ble_eq_true rfl) wd_1_180 ha_x18 hv_x18 dX11_plays_63 ?_
        refine r_aload_n (j := 0) rfl rfl dX11_plays_66 ?_
        try unfold C_X1_add at hf
        obtain ⟨⟨fs_r20, ha_r20⟩, hf⟩ := hf
        refine r_invVU (t := 1) (As := [aR r17]) (dz := d) (mz := 0) (sz := 0) rfl wd_6_41 wd_4_87 wd_4_88 cf_X1_add (Nat.le_refl _) (Nat.zero_le _) (Nat.zero_le _) (cat_ok (Nat.le_of_ble_eq_true rfl)) rfl rfl ha_r20 dX11_plays_67 hf (fun σ19 hk => ?_)
        replace hf := hk
        clear hk
        refine r_aload_n (j := 1) rfl rfl dX11_plays_70 ?_
        refine r_aload_n (j := 0) rfl rfl dX11_plays_71 ?_
        try unfold C_X11_numberOf at hf
        refine r_invSI (As := [aR r17]) (dz := d) (mz := 0) (sz := 0) rfl wd_4_163 wd_4_164 cf_X11_numberOf (Nat.le_refl _) (Nat.zero_le _) (Nat.zero_le _) (cat_ok (Nat.le_of_ble_eq_true rfl)) dX11_plays_72 hf (fun r22 σ21 hk => ?_)
        replace hf := hk
        clear hk
        try unfold C_X11_accept at hf
        obtain ⟨⟨fs_r24, ha_r24⟩, hf⟩ := hf
        refine r_invVI (t := 11) (As := [aI r22]) (dz := d) (mz := 0) (sz := 0) rfl wd_4_118 wd_4_120 wd_p_30 cf_X11_accept (Nat.le_refl _) (Nat.zero_le _) (Nat.zero_le _) (cat_ok (Nat.le_of_ble_eq_true rfl)) rfl rfl ha_r24 dX11_plays_75 hf (fun r24 σ23 hk => ?_)
        replace hf := hk
        clear hk
        exact r_ireturn rfl dX11_plays_78 rfl ⟨_, rfl, hf⟩
      · replace hf := hf.2 hc
        refine r_aload_n (j := 0) rfl rfl dX11_plays_27 ?_
        refine r_bipush (v := 6) (by decide) dX11_plays_28 ?_
        try unfold C_X11_refuse at hf
        obtain ⟨⟨fs_r26, ha_r26⟩, hf⟩ := hf
        refine r_invVI (t := 11) (As := [aI 6]) (dz := d) (mz := 0) (sz := 0) rfl wd_1_222 wd_1_224 wd_p_1 cf_X11_refuse (Nat.le_refl _) (Nat.zero_le _) (Nat.zero_le _) (cat_ok (Nat.le_of_ble_eq_true rfl)) rfl rfl ha_r26 dX11_plays_30 hf (fun r26 σ25 hk => ?_)
        replace hf := hk
        clear hk
        exact r_ireturn rfl dX11_plays_33 rfl ⟨_, rfl, hf⟩
    · replace hf := hf.2 hc
      exact r_sub [0] rfl (b_X11_plays_14 hf)
theorem m_X11_plays {l : Launch} {G : GG} {d : Nat} {v0 : Nat} {v1 : Int32} {σ : Hp} {K : Int32 → Hp → Prop} (hr : rv σ v0 11) (hf : F_X11_plays l G d v0 v1 σ K) : C_X11_plays l G (d + 1) v0 v1 σ K := ⟨hr, Sp.of (by decide) (Nat.le_of_ble_eq_true rfl) (b_X11_plays_0 hf) rfl⟩
def F_X11_seed_24 (l : Launch) (G : GG) (d : Nat) (v0 : Nat) (σ : Hp) (K : Bool → Hp → Prop) : Prop :=
  C_X11_deny l G d v0 2 σ fun r2 σ1 =>
  K r2 σ1
set_option maxRecDepth 100000 in
set_option maxHeartbeats 4000000 in
theorem b_X11_seed_24 {l : Launch} {G : GG} {d : Nat} {v0 : Nat} {σ : Hp} {K : Bool → Hp → Prop} (hf : F_X11_seed_24 l G d v0 σ K) : Wd l G (d + 1) "CoinsLaid" yX11_seed cX11_seed 2 (some FieldType.boolean) 24 [(0, aR (some v0))] [] σ 0 0 (xM (QZ K)) := by
  unfold F_X11_seed_24 at hf
  refine r_aload_n (j := 0) rfl rfl dX11_seed_24 ?_
  refine r_iconst (v := 2) (by decide) dX11_seed_25 ?_
  try unfold C_X11_deny at hf
  obtain ⟨⟨fs_r2, ha_r2⟩, hf⟩ := hf
  refine r_invVZ (t := 11) (As := [aI 2]) (dz := d) (mz := 0) (sz := 0) rfl wd_6_31 wd_6_33 wd_p_45 cf_X11_deny (Nat.le_refl _) (Nat.zero_le _) (Nat.zero_le _) (cat_ok (Nat.le_of_ble_eq_true rfl)) rfl rfl ha_r2 dX11_seed_26 hf (fun r2 σ1 hk => ?_)
  replace hf := hk
  clear hk
  exact r_zreturn (b := r2) rfl dX11_seed_29 rfl ⟨_, rfl, hf⟩
def F_X11_seed (l : Launch) (G : GG) (d : Nat) (v0 : Nat) (v1 : Int32) (σ : Hp) (K : Bool → Hp → Prop) : Prop :=
  fR σ v0 11 5 fun x3 =>
  (∀ b4, x3 = some b4 →
    ((v1 : Int32) < 0 →
      F_X11_seed_24 l G d v0 σ K) ∧
    (¬ (v1 : Int32) < 0 →
      ((v1 : Int32) < (65537 : Int32) →
        fN σ v0 11 7 fun x5 =>
        pF σ x5 1 3 (aI v1) fun σ6 =>
        C_X11_grant l G d v0 σ6 fun r9 σ8 =>
        K r9 σ8) ∧
      (¬ (v1 : Int32) < (65537 : Int32) →
        F_X11_seed_24 l G d v0 σ K))) ∧
  (x3 = none →
    C_X11_deny l G d v0 1 σ fun r11 σ10 =>
    K r11 σ10)
set_option maxRecDepth 100000 in
set_option maxHeartbeats 4000000 in
theorem b_X11_seed_0 {l : Launch} {G : GG} {d : Nat} {v0 : Nat} {v1 : Int32} {σ : Hp} {K : Bool → Hp → Prop} (hf : F_X11_seed l G d v0 v1 σ K) : Wd l G (d + 1) "CoinsLaid" yX11_seed cX11_seed 2 (some FieldType.boolean) 0 [(0, aR (some v0)), (1, aI v1)] [] σ 0 0 (xM (QZ K)) := by
  unfold F_X11_seed at hf
  refine r_aload_n (j := 0) rfl rfl dX11_seed_0 ?_
  obtain ⟨fs_x3, x3, ha_x3, hv_x3, hf⟩ := hf
  refine r_get (Cn := RX11) (Tt := TX11) (N := 12) (n := 5) rfl uw_X11 (Nat.le_of_ble_eq_true rfl) wd_1_178 ha_x3 hv_x3 dX11_seed_1 ?_
  refine r_ifnonnull (o := x3) (tgt := 13) (by decide) dX11_seed_4 (fun b4 hc => ?_) (fun hc => ?_)
  · replace hf := hf.1 b4 hc
    subst hc
    refine r_iload_n (j := 1) rfl rfl dX11_seed_13 ?_
    refine r_iflt (x := v1) (tgt := 24) (by decide) dX11_seed_14 (fun hc => ?_) (fun hc => ?_)
    · replace hf := hf.1 hc
      exact r_sub [0] rfl (b_X11_seed_24 hf)
    · replace hf := hf.2 hc
      refine r_iload_n (j := 1) rfl rfl dX11_seed_17 ?_
      refine r_ldcw wd_6_65 dX11_seed_18 ?_
      refine r_icmplt (x := v1) (y := 65537) (tgt := 30) (by decide) dX11_seed_21 (fun hc => ?_) (fun hc => ?_)
      · replace hf := hf.1 hc
        refine r_aload_n (j := 0) rfl rfl dX11_seed_30 ?_
        obtain ⟨fs_x5, x5, ha_x5, hv_x5, hf⟩ := hf
        refine r_get (Cn := RX11) (Tt := TX11) (N := 12) (n := 7) rfl uw_X11 (Nat.le_of_ble_eq_true rfl) wd_1_180 ha_x5 hv_x5 dX11_seed_31 ?_
        refine r_iload_n (j := 1) rfl rfl dX11_seed_34 ?_
        obtain ⟨fs_x7, ha_x7, hf⟩ := hf
        generalize hσ6 : hset σ x5 (.inl (1, fs_x7.set 3 (aI v1))) = σ6 at hf
        refine r_put (Cn := RX1) (Tt := TX1) (N := 4) (n := 3) (v := aI v1) rfl uw_X1 (Nat.le_of_ble_eq_true rfl) wd_1_100 ha_x7 (ty0 := tyX1) tyX1_ok nmX1 rfl (fo_I v1) dX11_seed_35 ?_
        rw [hσ6]
        refine r_aload_n (j := 0) rfl rfl dX11_seed_38 ?_
        try unfold C_X11_grant at hf
        obtain ⟨⟨fs_r9, ha_r9⟩, hf⟩ := hf
        refine r_invVZ (t := 11) (As := []) (dz := d) (mz := 0) (sz := 0) rfl wd_6_42 wd_6_44 wd_p_46 cf_X11_grant (Nat.le_refl _) (Nat.zero_le _) (Nat.zero_le _) (cat_ok (Nat.le_of_ble_eq_true rfl)) rfl rfl ha_r9 dX11_seed_39 hf (fun r9 σ8 hk => ?_)
        replace hf := hk
        clear hk
        exact r_zreturn (b := r9) rfl dX11_seed_42 rfl ⟨_, rfl, hf⟩
      · replace hf := hf.2 hc
        exact r_sub [0] rfl (b_X11_seed_24 hf)
  · replace hf := hf.2 hc
    subst hc
    refine r_aload_n (j := 0) rfl rfl dX11_seed_7 ?_
    refine r_iconst (v := 1) (by decide) dX11_seed_8 ?_
    try unfold C_X11_deny at hf
    obtain ⟨⟨fs_r11, ha_r11⟩, hf⟩ := hf
    refine r_invVZ (t := 11) (As := [aI 1]) (dz := d) (mz := 0) (sz := 0) rfl wd_6_31 wd_6_33 wd_p_45 cf_X11_deny (Nat.le_refl _) (Nat.zero_le _) (Nat.zero_le _) (cat_ok (Nat.le_of_ble_eq_true rfl)) rfl rfl ha_r11 dX11_seed_9 hf (fun r11 σ10 hk => ?_)
    replace hf := hk
    clear hk
    exact r_zreturn (b := r11) rfl dX11_seed_12 rfl ⟨_, rfl, hf⟩
theorem m_X11_seed {l : Launch} {G : GG} {d : Nat} {v0 : Nat} {v1 : Int32} {σ : Hp} {K : Bool → Hp → Prop} (hr : rv σ v0 11) (hf : F_X11_seed l G d v0 v1 σ K) : C_X11_seed l G (d + 1) v0 v1 σ K := ⟨hr, Sp.of (by decide) (Nat.le_of_ble_eq_true rfl) (b_X11_seed_0 hf) rfl⟩
def F_X11_undo_27 (l : Launch) (G : GG) (d : Nat) (s0 : Bool) (σ : Hp) (K : Bool → Hp → Prop) : Prop :=
  K s0 σ
set_option maxRecDepth 100000 in
set_option maxHeartbeats 4000000 in
theorem b_X11_undo_27 {l : Launch} {G : GG} {d : Nat} {s0 : Bool} {σ : Hp} {K : Bool → Hp → Prop} (hf : F_X11_undo_27 l G d s0 σ K) : Wd l G (d + 1) "CoinsLaid" yX11_undo cX11_undo 1 (some FieldType.boolean) 27 [] [aI (bi s0)] σ 0 0 (xM (QZ K)) := by
  unfold F_X11_undo_27 at hf
  exact r_zreturn (b := s0) rfl dX11_undo_27 rfl ⟨_, rfl, hf⟩
def F_X11_undo (l : Launch) (G : GG) (d : Nat) (v0 : Nat) (σ : Hp) (K : Bool → Hp → Prop) : Prop :=
  fN σ v0 11 9 fun x1 =>
  fN σ v0 11 7 fun x2 =>
  C_X4_undoTo l G d x1 x2 σ fun r4 σ3 =>
  (r4 = false →
    C_X11_deny l G d v0 6 σ3 fun r6 σ5 =>
    F_X11_undo_27 l G d r6 σ5 K) ∧
  (r4 = true →
    C_X11_grant l G d v0 σ3 fun r8 σ7 =>
    F_X11_undo_27 l G d r8 σ7 K)
set_option maxRecDepth 100000 in
set_option maxHeartbeats 4000000 in
theorem b_X11_undo_0 {l : Launch} {G : GG} {d : Nat} {v0 : Nat} {σ : Hp} {K : Bool → Hp → Prop} (hf : F_X11_undo l G d v0 σ K) : Wd l G (d + 1) "CoinsLaid" yX11_undo cX11_undo 1 (some FieldType.boolean) 0 [(0, aR (some v0))] [] σ 0 0 (xM (QZ K)) := by
  unfold F_X11_undo at hf
  refine r_aload_n (j := 0) rfl rfl dX11_undo_0 ?_
  obtain ⟨fs_x1, x1, ha_x1, hv_x1, hf⟩ := hf
  refine r_get (Cn := RX11) (Tt := TX11) (N := 12) (n := 9) rfl uw_X11 (Nat.le_of_ble_eq_true rfl) wd_1_182 ha_x1 hv_x1 dX11_undo_1 ?_
  refine r_aload_n (j := 0) rfl rfl dX11_undo_4 ?_
  obtain ⟨fs_x2, x2, ha_x2, hv_x2, hf⟩ := hf
  refine r_get (Cn := RX11) (Tt := TX11) (N := 12) (n := 7) rfl uw_X11 (Nat.le_of_ble_eq_true rfl) wd_1_180 ha_x2 hv_x2 dX11_undo_5 ?_
  try unfold C_X4_undoTo at hf
  obtain ⟨⟨fs_r4, ha_r4⟩, hf⟩ := hf
  refine r_invVZ (t := 4) (As := [aR (some x2)]) (dz := d) (mz := 0) (sz := 0) rfl wd_6_70 wd_6_71 wd_6_72 cf_X4_undoTo (Nat.le_refl _) (Nat.zero_le _) (Nat.zero_le _) (cat_ok (Nat.le_of_ble_eq_true rfl)) rfl rfl ha_r4 dX11_undo_8 hf (fun r4 σ3 hk => ?_)
  replace hf := hk
  clear hk
  refine r_ifeqZ (b := r4) (tgt := 21) (by decide) dX11_undo_11 (fun hc => ?_) (fun hc => ?_)
  · replace hf := hf.1 hc
    refine r_aload_n (j := 0) rfl rfl dX11_undo_21 ?_
    refine r_bipush (v := 6) (by decide) dX11_undo_22 ?_
    try unfold C_X11_deny at hf
    obtain ⟨⟨fs_r6, ha_r6⟩, hf⟩ := hf
    refine r_invVZ (t := 11) (As := [aI 6]) (dz := d) (mz := 0) (sz := 0) rfl wd_6_31 wd_6_33 wd_p_45 cf_X11_deny (Nat.le_refl _) (Nat.zero_le _) (Nat.zero_le _) (cat_ok (Nat.le_of_ble_eq_true rfl)) rfl rfl ha_r6 dX11_undo_24 hf (fun r6 σ5 hk => ?_)
    replace hf := hk
    clear hk
    exact r_sub [] rfl (b_X11_undo_27 hf)
  · replace hf := hf.2 hc
    refine r_aload_n (j := 0) rfl rfl dX11_undo_14 ?_
    try unfold C_X11_grant at hf
    obtain ⟨⟨fs_r8, ha_r8⟩, hf⟩ := hf
    refine r_invVZ (t := 11) (As := []) (dz := d) (mz := 0) (sz := 0) rfl wd_6_42 wd_6_44 wd_p_46 cf_X11_grant (Nat.le_refl _) (Nat.zero_le _) (Nat.zero_le _) (cat_ok (Nat.le_of_ble_eq_true rfl)) rfl rfl ha_r8 dX11_undo_15 hf (fun r8 σ7 hk => ?_)
    replace hf := hk
    clear hk
    refine r_goto (tgt := 27) (by decide) dX11_undo_18 ?_
    exact r_sub [] rfl (b_X11_undo_27 hf)
theorem m_X11_undo {l : Launch} {G : GG} {d : Nat} {v0 : Nat} {σ : Hp} {K : Bool → Hp → Prop} (hr : rv σ v0 11) (hf : F_X11_undo l G d v0 σ K) : C_X11_undo l G (d + 1) v0 σ K := ⟨hr, Sp.of (by decide) (Nat.le_of_ble_eq_true rfl) (b_X11_undo_0 hf) rfl⟩
def F_X11_image_43 (l : Launch) (G : GG) (d : Nat) (s0 : Int32) (σ : Hp) (K : Int32 → Hp → Prop) : Prop :=
  K s0 σ
set_option maxRecDepth 100000 in
set_option maxHeartbeats 4000000 in
theorem b_X11_image_43 {l : Launch} {G : GG} {d : Nat} {s0 : Int32} {σ : Hp} {K : Int32 → Hp → Prop} (hf : F_X11_image_43 l G d s0 σ K) : Wd l G (d + 1) "CoinsLaid" yX11_image cX11_image 2 (some FieldType.int) 43 [] [aI s0] σ 0 0 (xM (QI K)) := by
  unfold F_X11_image_43 at hf
  exact r_ireturn rfl dX11_image_43 rfl ⟨_, rfl, hf⟩
def F_X11_image (l : Launch) (G : GG) (d : Nat) (v0 : Nat) (σ : Hp) (K : Int32 → Hp → Prop) : Prop :=
  fR σ v0 11 5 fun x1 =>
  (∀ b2, x1 = some b2 →
    fN σ v0 11 9 fun x3 =>
    fN σ v0 11 7 fun x4 =>
    C_X4_addImage l G d x3 x4 σ fun r6 σ5 =>
    (¬ (r6 : Int32) = ((-1) : Int32) →
      C_X11_accept l G d v0 r6 σ5 fun r8 σ7 =>
      F_X11_image_43 l G d r8 σ7 K) ∧
    ((r6 : Int32) = ((-1) : Int32) →
      C_X11_refuse l G d v0 3 σ5 fun r10 σ9 =>
      F_X11_image_43 l G d r10 σ9 K)) ∧
  (x1 = none →
    C_X11_refuse l G d v0 1 σ fun r12 σ11 =>
    K r12 σ11)
set_option maxRecDepth 100000 in
set_option maxHeartbeats 4000000 in
theorem b_X11_image_0 {l : Launch} {G : GG} {d : Nat} {v0 : Nat} {σ : Hp} {K : Int32 → Hp → Prop} (hf : F_X11_image l G d v0 σ K) : Wd l G (d + 1) "CoinsLaid" yX11_image cX11_image 2 (some FieldType.int) 0 [(0, aR (some v0))] [] σ 0 0 (xM (QI K)) := by
  unfold F_X11_image at hf
  refine r_aload_n (j := 0) rfl rfl dX11_image_0 ?_
  obtain ⟨fs_x1, x1, ha_x1, hv_x1, hf⟩ := hf
  refine r_get (Cn := RX11) (Tt := TX11) (N := 12) (n := 5) rfl uw_X11 (Nat.le_of_ble_eq_true rfl) wd_1_178 ha_x1 hv_x1 dX11_image_1 ?_
  refine r_ifnonnull (o := x1) (tgt := 13) (by decide) dX11_image_4 (fun b2 hc => ?_) (fun hc => ?_)
  · replace hf := hf.1 b2 hc
    subst hc
    refine r_aload_n (j := 0) rfl rfl dX11_image_13 ?_
    obtain ⟨fs_x3, x3, ha_x3, hv_x3, hf⟩ := hf
    refine r_get (Cn := RX11) (Tt := TX11) (N := 12) (n := 9) rfl uw_X11 (Nat.le_of_ble_eq_true rfl) wd_1_182 ha_x3 hv_x3 dX11_image_14 ?_
    refine r_aload_n (j := 0) rfl rfl dX11_image_17 ?_
    obtain ⟨fs_x4, x4, ha_x4, hv_x4, hf⟩ := hf
    refine r_get (Cn := RX11) (Tt := TX11) (N := 12) (n := 7) rfl uw_X11 (Nat.le_of_ble_eq_true rfl) wd_1_180 ha_x4 hv_x4 dX11_image_18 ?_
    try unfold C_X4_addImage at hf
    obtain ⟨⟨fs_r6, ha_r6⟩, hf⟩ := hf
    refine r_invVI (t := 4) (As := [aR (some x4)]) (dz := d) (mz := 0) (sz := 0) rfl wd_6_78 wd_6_79 wd_6_80 cf_X4_addImage (Nat.le_refl _) (Nat.zero_le _) (Nat.zero_le _) (cat_ok (Nat.le_of_ble_eq_true rfl)) rfl rfl ha_r6 dX11_image_21 hf (fun r6 σ5 hk => ?_)
    replace hf := hk
    clear hk
    refine r_istore_n (L' := [(1, aI r6), (0, aR (some v0))]) rfl rfl (Nat.le_of_ble_eq_true rfl) dX11_image_24 ?_
    refine r_iload_n (j := 0) rfl rfl dX11_image_25 ?_
    refine r_iconst (v := (-1)) (by decide) dX11_image_26 ?_
    refine r_icmpne (x := r6) (y := (-1)) (tgt := 38) (by decide) dX11_image_27 (fun hc => ?_) (fun hc => ?_)
    · replace hf := hf.1 hc
      refine r_aload_n (j := 1) rfl rfl dX11_image_38 ?_
      refine r_iload_n (j := 0) rfl rfl dX11_image_39 ?_
      try unfold C_X11_accept at hf
      obtain ⟨⟨fs_r8, ha_r8⟩, hf⟩ := hf
      refine r_invVI (t := 11) (As := [aI r6]) (dz := d) (mz := 0) (sz := 0) rfl wd_4_118 wd_4_120 wd_p_30 cf_X11_accept (Nat.le_refl _) (Nat.zero_le _) (Nat.zero_le _) (cat_ok (Nat.le_of_ble_eq_true rfl)) rfl rfl ha_r8 dX11_image_40 hf (fun r8 σ7 hk => ?_)
      replace hf := hk
      clear hk
      exact r_sub [] rfl (b_X11_image_43 hf)
    · replace hf := hf.2 hc
      refine r_aload_n (j := 1) rfl rfl dX11_image_30 ?_
      refine r_iconst (v := 3) (by decide) dX11_image_31 ?_
      try unfold C_X11_refuse at hf
      obtain ⟨⟨fs_r10, ha_r10⟩, hf⟩ := hf
      refine r_invVI (t := 11) (As := [aI 3]) (dz := d) (mz := 0) (sz := 0) rfl wd_1_222 wd_1_224 wd_p_1 cf_X11_refuse (Nat.le_refl _) (Nat.zero_le _) (Nat.zero_le _) (cat_ok (Nat.le_of_ble_eq_true rfl)) rfl rfl ha_r10 dX11_image_32 hf (fun r10 σ9 hk => ?_)
      replace hf := hk
      clear hk
      refine r_goto (tgt := 43) (by decide) dX11_image_35 ?_
      exact r_sub [] rfl (b_X11_image_43 hf)
  · replace hf := hf.2 hc
    subst hc
    refine r_aload_n (j := 0) rfl rfl dX11_image_7 ?_
    refine r_iconst (v := 1) (by decide) dX11_image_8 ?_
    try unfold C_X11_refuse at hf
    obtain ⟨⟨fs_r12, ha_r12⟩, hf⟩ := hf
    refine r_invVI (t := 11) (As := [aI 1]) (dz := d) (mz := 0) (sz := 0) rfl wd_1_222 wd_1_224 wd_p_1 cf_X11_refuse (Nat.le_refl _) (Nat.zero_le _) (Nat.zero_le _) (cat_ok (Nat.le_of_ble_eq_true rfl)) rfl rfl ha_r12 dX11_image_9 hf (fun r12 σ11 hk => ?_)
    replace hf := hk
    clear hk
    exact r_ireturn rfl dX11_image_12 rfl ⟨_, rfl, hf⟩
theorem m_X11_image {l : Launch} {G : GG} {d : Nat} {v0 : Nat} {σ : Hp} {K : Int32 → Hp → Prop} (hr : rv σ v0 11) (hf : F_X11_image l G d v0 σ K) : C_X11_image l G (d + 1) v0 σ K := ⟨hr, Sp.of (by decide) (Nat.le_of_ble_eq_true rfl) (b_X11_image_0 hf) rfl⟩
def F_X11_back_27 (l : Launch) (G : GG) (d : Nat) (s0 : Bool) (σ : Hp) (K : Bool → Hp → Prop) : Prop :=
  K s0 σ
set_option maxRecDepth 100000 in
set_option maxHeartbeats 4000000 in
theorem b_X11_back_27 {l : Launch} {G : GG} {d : Nat} {s0 : Bool} {σ : Hp} {K : Bool → Hp → Prop} (hf : F_X11_back_27 l G d s0 σ K) : Wd l G (d + 1) "CoinsLaid" yX11_back cX11_back 2 (some FieldType.boolean) 27 [] [aI (bi s0)] σ 0 0 (xM (QZ K)) := by
  unfold F_X11_back_27 at hf
  exact r_zreturn (b := s0) rfl dX11_back_27 rfl ⟨_, rfl, hf⟩
def F_X11_back (l : Launch) (G : GG) (d : Nat) (v0 : Nat) (v1 : Int32) (σ : Hp) (K : Bool → Hp → Prop) : Prop :=
  fN σ v0 11 9 fun x1 =>
  fN σ v0 11 7 fun x2 =>
  C_X4_backTo l G d x1 v1 x2 σ fun r4 σ3 =>
  (r4 = false →
    C_X11_deny l G d v0 1 σ3 fun r6 σ5 =>
    F_X11_back_27 l G d r6 σ5 K) ∧
  (r4 = true →
    C_X11_grant l G d v0 σ3 fun r8 σ7 =>
    F_X11_back_27 l G d r8 σ7 K)
set_option maxRecDepth 100000 in
set_option maxHeartbeats 4000000 in
theorem b_X11_back_0 {l : Launch} {G : GG} {d : Nat} {v0 : Nat} {v1 : Int32} {σ : Hp} {K : Bool → Hp → Prop} (hf : F_X11_back l G d v0 v1 σ K) : Wd l G (d + 1) "CoinsLaid" yX11_back cX11_back 2 (some FieldType.boolean) 0 [(0, aR (some v0)), (1, aI v1)] [] σ 0 0 (xM (QZ K)) := by
  unfold F_X11_back at hf
  refine r_aload_n (j := 0) rfl rfl dX11_back_0 ?_
  obtain ⟨fs_x1, x1, ha_x1, hv_x1, hf⟩ := hf
  refine r_get (Cn := RX11) (Tt := TX11) (N := 12) (n := 9) rfl uw_X11 (Nat.le_of_ble_eq_true rfl) wd_1_182 ha_x1 hv_x1 dX11_back_1 ?_
  refine r_iload_n (j := 1) rfl rfl dX11_back_4 ?_
  refine r_aload_n (j := 0) rfl rfl dX11_back_5 ?_
  obtain ⟨fs_x2, x2, ha_x2, hv_x2, hf⟩ := hf
  refine r_get (Cn := RX11) (Tt := TX11) (N := 12) (n := 7) rfl uw_X11 (Nat.le_of_ble_eq_true rfl) wd_1_180 ha_x2 hv_x2 dX11_back_6 ?_
  try unfold C_X4_backTo at hf
  obtain ⟨⟨fs_r4, ha_r4⟩, hf⟩ := hf
  refine r_invVZ (t := 4) (As := [aI v1, aR (some x2)]) (dz := d) (mz := 0) (sz := 0) rfl wd_6_86 wd_6_87 wd_6_88 cf_X4_backTo (Nat.le_refl _) (Nat.zero_le _) (Nat.zero_le _) (cat_ok (Nat.le_of_ble_eq_true rfl)) rfl rfl ha_r4 dX11_back_9 hf (fun r4 σ3 hk => ?_)
  replace hf := hk
  clear hk
  refine r_ifeqZ (b := r4) (tgt := 22) (by decide) dX11_back_12 (fun hc => ?_) (fun hc => ?_)
  · replace hf := hf.1 hc
    refine r_aload_n (j := 0) rfl rfl dX11_back_22 ?_
    refine r_iconst (v := 1) (by decide) dX11_back_23 ?_
    try unfold C_X11_deny at hf
    obtain ⟨⟨fs_r6, ha_r6⟩, hf⟩ := hf
    refine r_invVZ (t := 11) (As := [aI 1]) (dz := d) (mz := 0) (sz := 0) rfl wd_6_31 wd_6_33 wd_p_45 cf_X11_deny (Nat.le_refl _) (Nat.zero_le _) (Nat.zero_le _) (cat_ok (Nat.le_of_ble_eq_true rfl)) rfl rfl ha_r6 dX11_back_24 hf (fun r6 σ5 hk => ?_)
    replace hf := hk
    clear hk
    exact r_sub [] rfl (b_X11_back_27 hf)
  · replace hf := hf.2 hc
    refine r_aload_n (j := 0) rfl rfl dX11_back_15 ?_
    try unfold C_X11_grant at hf
    obtain ⟨⟨fs_r8, ha_r8⟩, hf⟩ := hf
    refine r_invVZ (t := 11) (As := []) (dz := d) (mz := 0) (sz := 0) rfl wd_6_42 wd_6_44 wd_p_46 cf_X11_grant (Nat.le_refl _) (Nat.zero_le _) (Nat.zero_le _) (cat_ok (Nat.le_of_ble_eq_true rfl)) rfl rfl ha_r8 dX11_back_16 hf (fun r8 σ7 hk => ?_)
    replace hf := hk
    clear hk
    refine r_goto (tgt := 27) (by decide) dX11_back_19 ?_
    exact r_sub [] rfl (b_X11_back_27 hf)
theorem m_X11_back {l : Launch} {G : GG} {d : Nat} {v0 : Nat} {v1 : Int32} {σ : Hp} {K : Bool → Hp → Prop} (hr : rv σ v0 11) (hf : F_X11_back l G d v0 v1 σ K) : C_X11_back l G (d + 1) v0 v1 σ K := ⟨hr, Sp.of (by decide) (Nat.le_of_ble_eq_true rfl) (b_X11_back_0 hf) rfl⟩
def F_X11_told (l : Launch) (G : GG) (d : Nat) (v0 : Nat) (v1 : Int32) (σ : Hp) (K : Int32 → Hp → Prop) : Prop :=
  ((v1 : Int32) = 6 →
    fN σ v0 11 7 fun x1 =>
    fI σ x1 1 1 fun x2 =>
    K x2 σ) ∧
  ((v1 : Int32) = 7 →
    fN σ v0 11 7 fun x3 =>
    C_X1_next l G d x3 σ fun r5 σ4 =>
    K r5 σ4) ∧
  ((v1 : Int32) = 8 →
    fN σ v0 11 7 fun x6 =>
    fI σ x6 1 3 fun x7 =>
    K x7 σ) ∧
  ((v1 : Int32) = 9 →
    fN σ v0 11 9 fun x8 =>
    fI σ x8 4 2 fun x9 =>
    K x9 σ) ∧
  ((v1 : Int32) = 10 →
    fN σ v0 11 9 fun x10 =>
    fI σ x10 4 4 fun x11 =>
    K x11 σ) ∧
  ((v1 : Int32) = 11 →
    fI σ v0 11 1 fun x12 =>
    K x12 σ) ∧
  (¬ (v1 : Int32) = 6 → ¬ (v1 : Int32) = 7 → ¬ (v1 : Int32) = 8 → ¬ (v1 : Int32) = 9 → ¬ (v1 : Int32) = 10 → ¬ (v1 : Int32) = 11 →
    C_X11_toldOfTable l G d v0 v1 σ fun r14 σ13 =>
    K r14 σ13)
set_option maxRecDepth 100000 in
set_option maxHeartbeats 4000000 in
theorem b_X11_told_0 {l : Launch} {G : GG} {d : Nat} {v0 : Nat} {v1 : Int32} {σ : Hp} {K : Int32 → Hp → Prop} (hf : F_X11_told l G d v0 v1 σ K) : Wd l G (d + 1) "CoinsLaid" yX11_told cX11_told 2 (some FieldType.int) 0 [(0, aR (some v0)), (1, aI v1)] [] σ 0 0 (xM (QI K)) := by
  unfold F_X11_told at hf
  refine r_iload_n (j := 1) rfl rfl dX11_told_0 ?_
  by_cases hc6 : (v1 : Int32) = 6
  · replace hf := hf.1 hc6
    refine r_tabIn (tgt := 40) (off := 39) (by rw [hc6]; decide) (by rw [hc6]; decide) (by rw [hc6]; decide) (by decide) dX11_told_1 ?_
    refine r_aload_n (j := 0) rfl rfl dX11_told_40 ?_
    obtain ⟨fs_x1, x1, ha_x1, hv_x1, hf⟩ := hf
    refine r_get (Cn := RX11) (Tt := TX11) (N := 12) (n := 7) rfl uw_X11 (Nat.le_of_ble_eq_true rfl) wd_1_180 ha_x1 hv_x1 dX11_told_41 ?_
    obtain ⟨fs_x2, x2, ha_x2, hv_x2, hf⟩ := hf
    refine r_get (Cn := RX1) (Tt := TX1) (N := 4) (n := 1) rfl uw_X1 (Nat.le_of_ble_eq_true rfl) wd_1_94 ha_x2 hv_x2 dX11_told_44 ?_
    exact r_ireturn rfl dX11_told_47 rfl ⟨_, rfl, hf⟩
  by_cases hc7 : (v1 : Int32) = 7
  · replace hf := hf.2.1 hc7
    refine r_tabIn (tgt := 48) (off := 47) (by rw [hc7]; decide) (by rw [hc7]; decide) (by rw [hc7]; decide) (by decide) dX11_told_1 ?_
    refine r_aload_n (j := 0) rfl rfl dX11_told_48 ?_
    obtain ⟨fs_x3, x3, ha_x3, hv_x3, hf⟩ := hf
    refine r_get (Cn := RX11) (Tt := TX11) (N := 12) (n := 7) rfl uw_X11 (Nat.le_of_ble_eq_true rfl) wd_1_180 ha_x3 hv_x3 dX11_told_49 ?_
    try unfold C_X1_next at hf
    obtain ⟨⟨fs_r5, ha_r5⟩, hf⟩ := hf
    refine r_invVI (t := 1) (As := []) (dz := d) (mz := 0) (sz := 0) rfl wd_4_170 wd_4_75 wd_4_76 cf_X1_next (Nat.le_refl _) (Nat.zero_le _) (Nat.zero_le _) (cat_ok (Nat.le_of_ble_eq_true rfl)) rfl rfl ha_r5 dX11_told_52 hf (fun r5 σ4 hk => ?_)
    replace hf := hk
    clear hk
    exact r_ireturn rfl dX11_told_55 rfl ⟨_, rfl, hf⟩
  by_cases hc8 : (v1 : Int32) = 8
  · replace hf := hf.2.2.1 hc8
    refine r_tabIn (tgt := 56) (off := 55) (by rw [hc8]; decide) (by rw [hc8]; decide) (by rw [hc8]; decide) (by decide) dX11_told_1 ?_
    refine r_aload_n (j := 0) rfl rfl dX11_told_56 ?_
    obtain ⟨fs_x6, x6, ha_x6, hv_x6, hf⟩ := hf
    refine r_get (Cn := RX11) (Tt := TX11) (N := 12) (n := 7) rfl uw_X11 (Nat.le_of_ble_eq_true rfl) wd_1_180 ha_x6 hv_x6 dX11_told_57 ?_
    obtain ⟨fs_x7, x7, ha_x7, hv_x7, hf⟩ := hf
    refine r_get (Cn := RX1) (Tt := TX1) (N := 4) (n := 3) rfl uw_X1 (Nat.le_of_ble_eq_true rfl) wd_1_100 ha_x7 hv_x7 dX11_told_60 ?_
    exact r_ireturn rfl dX11_told_63 rfl ⟨_, rfl, hf⟩
  by_cases hc9 : (v1 : Int32) = 9
  · replace hf := hf.2.2.2.1 hc9
    refine r_tabIn (tgt := 64) (off := 63) (by rw [hc9]; decide) (by rw [hc9]; decide) (by rw [hc9]; decide) (by decide) dX11_told_1 ?_
    refine r_aload_n (j := 0) rfl rfl dX11_told_64 ?_
    obtain ⟨fs_x8, x8, ha_x8, hv_x8, hf⟩ := hf
    refine r_get (Cn := RX11) (Tt := TX11) (N := 12) (n := 9) rfl uw_X11 (Nat.le_of_ble_eq_true rfl) wd_1_182 ha_x8 hv_x8 dX11_told_65 ?_
    obtain ⟨fs_x9, x9, ha_x9, hv_x9, hf⟩ := hf
    refine r_get (Cn := RX4) (Tt := TX4) (N := 5) (n := 2) rfl uw_X4 (Nat.le_of_ble_eq_true rfl) wd_1_122 ha_x9 hv_x9 dX11_told_68 ?_
    exact r_ireturn rfl dX11_told_71 rfl ⟨_, rfl, hf⟩
  by_cases hc10 : (v1 : Int32) = 10
  · replace hf := hf.2.2.2.2.1 hc10
    refine r_tabIn (tgt := 72) (off := 71) (by rw [hc10]; decide) (by rw [hc10]; decide) (by rw [hc10]; decide) (by decide) dX11_told_1 ?_
    refine r_aload_n (j := 0) rfl rfl dX11_told_72 ?_
    obtain ⟨fs_x10, x10, ha_x10, hv_x10, hf⟩ := hf
    refine r_get (Cn := RX11) (Tt := TX11) (N := 12) (n := 9) rfl uw_X11 (Nat.le_of_ble_eq_true rfl) wd_1_182 ha_x10 hv_x10 dX11_told_73 ?_
    obtain ⟨fs_x11, x11, ha_x11, hv_x11, hf⟩ := hf
    refine r_get (Cn := RX4) (Tt := TX4) (N := 5) (n := 4) rfl uw_X4 (Nat.le_of_ble_eq_true rfl) wd_1_125 ha_x11 hv_x11 dX11_told_76 ?_
    exact r_ireturn rfl dX11_told_79 rfl ⟨_, rfl, hf⟩
  by_cases hc11 : (v1 : Int32) = 11
  · replace hf := hf.2.2.2.2.2.1 hc11
    refine r_tabIn (tgt := 80) (off := 79) (by rw [hc11]; decide) (by rw [hc11]; decide) (by rw [hc11]; decide) (by decide) dX11_told_1 ?_
    refine r_aload_n (j := 0) rfl rfl dX11_told_80 ?_
    obtain ⟨fs_x12, x12, ha_x12, hv_x12, hf⟩ := hf
    refine r_get (Cn := RX11) (Tt := TX11) (N := 12) (n := 1) rfl uw_X11 (Nat.le_of_ble_eq_true rfl) wd_1_174 ha_x12 hv_x12 dX11_told_81 ?_
    exact r_ireturn rfl dX11_told_84 rfl ⟨_, rfl, hf⟩
  replace hf := hf.2.2.2.2.2.2 hc6 hc7 hc8 hc9 hc10 hc11
  refine r_tabOut (x := v1) (tgt := 85) (tab_out (tab_cons (lo' := 7) (tab_ne hc6 (by decide)) (by decide) (tab_cons (lo' := 8) (tab_ne hc7 (by decide)) (by decide) (tab_cons (lo' := 9) (tab_ne hc8 (by decide)) (by decide) (tab_cons (lo' := 10) (tab_ne hc9 (by decide)) (by decide) (tab_cons (lo' := 11) (tab_ne hc10 (by decide)) (by decide) (tab_cons (lo' := 12) (tab_ne hc11 (by decide)) (by decide) (tab_nil (by decide))))))))) (by decide) dX11_told_1 ?_
  refine r_aload_n (j := 0) rfl rfl dX11_told_85 ?_
  refine r_iload_n (j := 1) rfl rfl dX11_told_86 ?_
  try unfold C_X11_toldOfTable at hf
  obtain ⟨⟨fs_r14, ha_r14⟩, hf⟩ := hf
  refine r_invVI (t := 11) (As := [aI v1]) (dz := d) (mz := 0) (sz := 0) rfl wd_6_94 wd_6_96 wd_p_47 cf_X11_toldOfTable (Nat.le_refl _) (Nat.zero_le _) (Nat.zero_le _) (cat_ok (Nat.le_of_ble_eq_true rfl)) rfl rfl ha_r14 dX11_told_87 hf (fun r14 σ13 hk => ?_)
  replace hf := hk
  clear hk
  exact r_ireturn rfl dX11_told_90 rfl ⟨_, rfl, hf⟩
theorem m_X11_told {l : Launch} {G : GG} {d : Nat} {v0 : Nat} {v1 : Int32} {σ : Hp} {K : Int32 → Hp → Prop} (hr : rv σ v0 11) (hf : F_X11_told l G d v0 v1 σ K) : C_X11_told l G (d + 1) v0 v1 σ K := ⟨hr, Sp.of (by decide) (Nat.le_of_ble_eq_true rfl) (b_X11_told_0 hf) rfl⟩
def F_X11_trouble (l : Launch) (G : GG) (d : Nat) (v0 : Nat) (σ : Hp) (K : Int32 → Hp → Prop) : Prop :=
  fI σ v0 11 4 fun x1 =>
  K x1 σ
set_option maxRecDepth 100000 in
set_option maxHeartbeats 4000000 in
theorem b_X11_trouble_0 {l : Launch} {G : GG} {d : Nat} {v0 : Nat} {σ : Hp} {K : Int32 → Hp → Prop} (hf : F_X11_trouble l G d v0 σ K) : Wd l G (d + 1) "CoinsLaid" yX11_trouble cX11_trouble 1 (some FieldType.int) 0 [(0, aR (some v0))] [] σ 0 0 (xM (QI K)) := by
  unfold F_X11_trouble at hf
  refine r_aload_n (j := 0) rfl rfl dX11_trouble_0 ?_
  obtain ⟨fs_x1, x1, ha_x1, hv_x1, hf⟩ := hf
  refine r_get (Cn := RX11) (Tt := TX11) (N := 12) (n := 4) rfl uw_X11 (Nat.le_of_ble_eq_true rfl) wd_1_177 ha_x1 hv_x1 dX11_trouble_1 ?_
  exact r_ireturn rfl dX11_trouble_4 rfl ⟨_, rfl, hf⟩
theorem m_X11_trouble {l : Launch} {G : GG} {d : Nat} {v0 : Nat} {σ : Hp} {K : Int32 → Hp → Prop} (hr : rv σ v0 11) (hf : F_X11_trouble l G d v0 σ K) : C_X11_trouble l G (d + 1) v0 σ K := ⟨hr, Sp.of (by decide) (Nat.le_of_ble_eq_true rfl) (b_X11_trouble_0 hf) rfl⟩
def F_X11_toldOfTable_9 (l : Launch) (G : GG) (d : Nat) (σ : Hp) (K : Int32 → Hp → Prop) : Prop :=
  K (-1) σ
set_option maxRecDepth 100000 in
set_option maxHeartbeats 4000000 in
theorem b_X11_toldOfTable_9 {l : Launch} {G : GG} {d : Nat} {σ : Hp} {K : Int32 → Hp → Prop} (hf : F_X11_toldOfTable_9 l G d  σ K) : Wd l G (d + 1) "CoinsLaid" yX11_toldOfTable cX11_toldOfTable 2 (some FieldType.int) 9 [] [] σ 0 0 (xM (QI K)) := by
  unfold F_X11_toldOfTable_9 at hf
  refine r_iconst (v := (-1)) (by decide) dX11_toldOfTable_9 ?_
  exact r_ireturn rfl dX11_toldOfTable_10 rfl ⟨_, rfl, hf⟩
def F_X11_toldOfTable_128 (l : Launch) (G : GG) (d : Nat) (s0 : Bool) (σ : Hp) (K : Int32 → Hp → Prop) : Prop :=
  K (bi s0) σ
set_option maxRecDepth 100000 in
set_option maxHeartbeats 4000000 in
theorem b_X11_toldOfTable_128 {l : Launch} {G : GG} {d : Nat} {s0 : Bool} {σ : Hp} {K : Int32 → Hp → Prop} (hf : F_X11_toldOfTable_128 l G d s0 σ K) : Wd l G (d + 1) "CoinsLaid" yX11_toldOfTable cX11_toldOfTable 2 (some FieldType.int) 128 [] [aI (bi s0)] σ 0 0 (xM (QI K)) := by
  unfold F_X11_toldOfTable_128 at hf
  exact r_ireturn rfl dX11_toldOfTable_128 rfl ⟨_, rfl, hf⟩
def F_X11_toldOfTable_112 (l : Launch) (G : GG) (d : Nat) (s0 : Bool) (σ : Hp) (K : Int32 → Hp → Prop) : Prop :=
  K (bi s0) σ
set_option maxRecDepth 100000 in
set_option maxHeartbeats 4000000 in
theorem b_X11_toldOfTable_112 {l : Launch} {G : GG} {d : Nat} {s0 : Bool} {σ : Hp} {K : Int32 → Hp → Prop} (hf : F_X11_toldOfTable_112 l G d s0 σ K) : Wd l G (d + 1) "CoinsLaid" yX11_toldOfTable cX11_toldOfTable 2 (some FieldType.int) 112 [] [aI (bi s0)] σ 0 0 (xM (QI K)) := by
  unfold F_X11_toldOfTable_112 at hf
  exact r_ireturn rfl dX11_toldOfTable_112 rfl ⟨_, rfl, hf⟩
def F_X11_toldOfTable (l : Launch) (G : GG) (d : Nat) (v0 : Nat) (v1 : Int32) (σ : Hp) (K : Int32 → Hp → Prop) : Prop :=
  ((v1 : Int32) < 0 →
    F_X11_toldOfTable_9 l G d σ K) ∧
  (¬ (v1 : Int32) < 0 →
    ((v1 : Int32) ≤ (5 : Int32) →
      fR σ v0 11 5 fun x1 =>
      (∀ b2, x1 = some b2 →
        ((v1 : Int32) = 0 →
          fR σ v0 11 5 fun x3 =>
          ∃ b4, x3 = some b4 ∧
          fN σ b4 8 3 fun x5 =>
          C_Jx4a65c_size_8abf5 l G d x5 σ fun r7 σ6 =>
          K r7 σ6) ∧
        ((v1 : Int32) = 1 →
          fR σ v0 11 5 fun x8 =>
          ∃ b9, x8 = some b9 ∧
          fN σ b9 8 4 fun x10 =>
          C_Jx4a65c_size_8abf5 l G d x10 σ fun r12 σ11 =>
          K r12 σ11) ∧
        ((v1 : Int32) = 2 →
          fR σ v0 11 5 fun x13 =>
          ∃ b14, x13 = some b14 ∧
          fI σ b14 8 5 fun x15 =>
          K x15 σ) ∧
        ((v1 : Int32) = 3 →
          fR σ v0 11 5 fun x16 =>
          ∃ b17, x16 = some b17 ∧
          fI σ b17 8 6 fun x18 =>
          C_J6_bitCount_0f7a4 l G d x18 σ fun r20 σ19 =>
          K r20 σ19) ∧
        ((v1 : Int32) = 4 →
          fR σ v0 11 5 fun x21 =>
          ∃ b22, x21 = some b22 ∧
          fZ σ b22 8 1 fun x23 =>
          (x23 = false →
            F_X11_toldOfTable_112 l G d false σ K) ∧
          (x23 = true →
            F_X11_toldOfTable_112 l G d true σ K)) ∧
        (¬ (v1 : Int32) = 0 → ¬ (v1 : Int32) = 1 → ¬ (v1 : Int32) = 2 → ¬ (v1 : Int32) = 3 → ¬ (v1 : Int32) = 4 →
          fR σ v0 11 5 fun x24 =>
          ∃ b25, x24 = some b25 ∧
          fZ σ b25 8 2 fun x26 =>
          (x26 = false →
            F_X11_toldOfTable_128 l G d false σ K) ∧
          (x26 = true →
            F_X11_toldOfTable_128 l G d true σ K))) ∧
      (x1 = none →
        K 0 σ)) ∧
    (¬ (v1 : Int32) ≤ (5 : Int32) →
      F_X11_toldOfTable_9 l G d σ K))
set_option maxRecDepth 100000 in
set_option maxHeartbeats 4000000 in
theorem b_X11_toldOfTable_0 {l : Launch} {G : GG} {d : Nat} {v0 : Nat} {v1 : Int32} {σ : Hp} {K : Int32 → Hp → Prop} (hf : F_X11_toldOfTable l G d v0 v1 σ K) : Wd l G (d + 1) "CoinsLaid" yX11_toldOfTable cX11_toldOfTable 2 (some FieldType.int) 0 [(0, aR (some v0)), (1, aI v1)] [] σ 0 0 (xM (QI K)) := by
  unfold F_X11_toldOfTable at hf
  refine r_iload_n (j := 1) rfl rfl dX11_toldOfTable_0 ?_
  refine r_iflt (x := v1) (tgt := 9) (by decide) dX11_toldOfTable_1 (fun hc => ?_) (fun hc => ?_)
  · replace hf := hf.1 hc
    exact r_sub [] rfl (b_X11_toldOfTable_9 hf)
  · replace hf := hf.2 hc
    refine r_iload_n (j := 1) rfl rfl dX11_toldOfTable_4 ?_
    refine r_iconst (v := 5) (by decide) dX11_toldOfTable_5 ?_
    refine r_icmple (x := v1) (y := 5) (tgt := 11) (by decide) dX11_toldOfTable_6 (fun hc => ?_) (fun hc => ?_)
    · replace hf := hf.1 hc
      refine r_aload_n (j := 0) rfl rfl dX11_toldOfTable_11 ?_
      obtain ⟨fs_x1, x1, ha_x1, hv_x1, hf⟩ := hf
      refine r_get (Cn := RX11) (Tt := TX11) (N := 12) (n := 5) rfl uw_X11 (Nat.le_of_ble_eq_true rfl) wd_1_178 ha_x1 hv_x1 dX11_toldOfTable_12 ?_
      refine r_ifnonnull (o := x1) (tgt := 20) (by decide) dX11_toldOfTable_15 (fun b2 hc => ?_) (fun hc => ?_)
      · replace hf := hf.1 b2 hc
        subst hc
        refine r_iload_n (j := 1) rfl rfl dX11_toldOfTable_20 ?_
        by_cases hc0 : (v1 : Int32) = 0
        · replace hf := hf.1 hc0
          refine r_tabIn (tgt := 56) (off := 35) (by rw [hc0]; decide) (by rw [hc0]; decide) (by rw [hc0]; decide) (by decide) dX11_toldOfTable_21 ?_
          refine r_aload_n (j := 0) rfl rfl dX11_toldOfTable_56 ?_
          obtain ⟨fs_x3, x3, ha_x3, hv_x3, hf⟩ := hf
          refine r_get (Cn := RX11) (Tt := TX11) (N := 12) (n := 5) rfl uw_X11 (Nat.le_of_ble_eq_true rfl) wd_1_178 ha_x3 hv_x3 dX11_toldOfTable_57 ?_
          obtain ⟨b4, hb_b4, hf⟩ := hf
          subst hb_b4
          obtain ⟨fs_x5, x5, ha_x5, hv_x5, hf⟩ := hf
          refine r_get (Cn := RX8) (Tt := TX8) (N := 9) (n := 3) rfl uw_X8 (Nat.le_of_ble_eq_true rfl) wd_2_65 ha_x5 hv_x5 dX11_toldOfTable_60 ?_
          try unfold C_Jx4a65c_size_8abf5 at hf
          obtain ⟨⟨fs_r7, ha_r7⟩, hf⟩ := hf
          refine r_invVI (t := 13) (As := []) (dz := d) (mz := 0) (sz := 0) rfl wd_6_98 wd_2_223 wd_2_224 cf_Jx4a65c_size_8abf5 (Nat.le_refl _) (Nat.zero_le _) (Nat.zero_le _) (cat_ok (Nat.le_of_ble_eq_true rfl)) rfl rfl ha_r7 dX11_toldOfTable_63 hf (fun r7 σ6 hk => ?_)
          replace hf := hk
          clear hk
          exact r_ireturn rfl dX11_toldOfTable_66 rfl ⟨_, rfl, hf⟩
        by_cases hc1 : (v1 : Int32) = 1
        · replace hf := hf.2.1 hc1
          refine r_tabIn (tgt := 67) (off := 46) (by rw [hc1]; decide) (by rw [hc1]; decide) (by rw [hc1]; decide) (by decide) dX11_toldOfTable_21 ?_
          refine r_aload_n (j := 0) rfl rfl dX11_toldOfTable_67 ?_
          obtain ⟨fs_x8, x8, ha_x8, hv_x8, hf⟩ := hf
          refine r_get (Cn := RX11) (Tt := TX11) (N := 12) (n := 5) rfl uw_X11 (Nat.le_of_ble_eq_true rfl) wd_1_178 ha_x8 hv_x8 dX11_toldOfTable_68 ?_
          obtain ⟨b9, hb_b9, hf⟩ := hf
          subst hb_b9
          obtain ⟨fs_x10, x10, ha_x10, hv_x10, hf⟩ := hf
          refine r_get (Cn := RX8) (Tt := TX8) (N := 9) (n := 4) rfl uw_X8 (Nat.le_of_ble_eq_true rfl) wd_2_68 ha_x10 hv_x10 dX11_toldOfTable_71 ?_
          try unfold C_Jx4a65c_size_8abf5 at hf
          obtain ⟨⟨fs_r12, ha_r12⟩, hf⟩ := hf
          refine r_invVI (t := 13) (As := []) (dz := d) (mz := 0) (sz := 0) rfl wd_6_98 wd_2_223 wd_2_224 cf_Jx4a65c_size_8abf5 (Nat.le_refl _) (Nat.zero_le _) (Nat.zero_le _) (cat_ok (Nat.le_of_ble_eq_true rfl)) rfl rfl ha_r12 dX11_toldOfTable_74 hf (fun r12 σ11 hk => ?_)
          replace hf := hk
          clear hk
          exact r_ireturn rfl dX11_toldOfTable_77 rfl ⟨_, rfl, hf⟩
        by_cases hc2 : (v1 : Int32) = 2
        · replace hf := hf.2.2.1 hc2
          refine r_tabIn (tgt := 78) (off := 57) (by rw [hc2]; decide) (by rw [hc2]; decide) (by rw [hc2]; decide) (by decide) dX11_toldOfTable_21 ?_
          refine r_aload_n (j := 0) rfl rfl dX11_toldOfTable_78 ?_
          obtain ⟨fs_x13, x13, ha_x13, hv_x13, hf⟩ := hf
          refine r_get (Cn := RX11) (Tt := TX11) (N := 12) (n := 5) rfl uw_X11 (Nat.le_of_ble_eq_true rfl) wd_1_178 ha_x13 hv_x13 dX11_toldOfTable_79 ?_
          obtain ⟨b14, hb_b14, hf⟩ := hf
          subst hb_b14
          obtain ⟨fs_x15, x15, ha_x15, hv_x15, hf⟩ := hf
          refine r_get (Cn := RX8) (Tt := TX8) (N := 9) (n := 5) rfl uw_X8 (Nat.le_of_ble_eq_true rfl) wd_2_71 ha_x15 hv_x15 dX11_toldOfTable_82 ?_
          exact r_ireturn rfl dX11_toldOfTable_85 rfl ⟨_, rfl, hf⟩
        by_cases hc3 : (v1 : Int32) = 3
        · replace hf := hf.2.2.2.1 hc3
          refine r_tabIn (tgt := 86) (off := 65) (by rw [hc3]; decide) (by rw [hc3]; decide) (by rw [hc3]; decide) (by decide) dX11_toldOfTable_21 ?_
          refine r_aload_n (j := 0) rfl rfl dX11_toldOfTable_86 ?_
          obtain ⟨fs_x16, x16, ha_x16, hv_x16, hf⟩ := hf
          refine r_get (Cn := RX11) (Tt := TX11) (N := 12) (n := 5) rfl uw_X11 (Nat.le_of_ble_eq_true rfl) wd_1_178 ha_x16 hv_x16 dX11_toldOfTable_87 ?_
          obtain ⟨b17, hb_b17, hf⟩ := hf
          subst hb_b17
          obtain ⟨fs_x18, x18, ha_x18, hv_x18, hf⟩ := hf
          refine r_get (Cn := RX8) (Tt := TX8) (N := 9) (n := 6) rfl uw_X8 (Nat.le_of_ble_eq_true rfl) wd_2_76 ha_x18 hv_x18 dX11_toldOfTable_90 ?_
          try unfold C_J6_bitCount_0f7a4 at hf
          refine r_invSI (As := [aI x18]) (dz := d) (mz := 0) (sz := 0) rfl wd_6_99 wd_6_100 cf_J6_bitCount_0f7a4 (Nat.le_refl _) (Nat.zero_le _) (Nat.zero_le _) (cat_ok (Nat.le_of_ble_eq_true rfl)) dX11_toldOfTable_93 hf (fun r20 σ19 hk => ?_)
          replace hf := hk
          clear hk
          exact r_ireturn rfl dX11_toldOfTable_96 rfl ⟨_, rfl, hf⟩
        by_cases hc4 : (v1 : Int32) = 4
        · replace hf := hf.2.2.2.2.1 hc4
          refine r_tabIn (tgt := 97) (off := 76) (by rw [hc4]; decide) (by rw [hc4]; decide) (by rw [hc4]; decide) (by decide) dX11_toldOfTable_21 ?_
          refine r_aload_n (j := 0) rfl rfl dX11_toldOfTable_97 ?_
          obtain ⟨fs_x21, x21, ha_x21, hv_x21, hf⟩ := hf
          refine r_get (Cn := RX11) (Tt := TX11) (N := 12) (n := 5) rfl uw_X11 (Nat.le_of_ble_eq_true rfl) wd_1_178 ha_x21 hv_x21 dX11_toldOfTable_98 ?_
          obtain ⟨b22, hb_b22, hf⟩ := hf
          subst hb_b22
          obtain ⟨fs_x23, x23, ha_x23, hv_x23, hf⟩ := hf
          refine r_get (Cn := RX8) (Tt := TX8) (N := 9) (n := 1) rfl uw_X8 (Nat.le_of_ble_eq_true rfl) wd_2_58 ha_x23 hv_x23 dX11_toldOfTable_101 ?_
          refine r_ifeqZ (b := x23) (tgt := 111) (by decide) dX11_toldOfTable_104 (fun hc => ?_) (fun hc => ?_)
          · replace hf := hf.1 hc
            refine r_iconst (v := 0) (by decide) dX11_toldOfTable_111 ?_
            exact r_sub [] rfl (b_X11_toldOfTable_112 hf)
          · replace hf := hf.2 hc
            refine r_iconst (v := 1) (by decide) dX11_toldOfTable_107 ?_
            refine r_goto (tgt := 112) (by decide) dX11_toldOfTable_108 ?_
            exact r_sub [] rfl (b_X11_toldOfTable_112 hf)
        replace hf := hf.2.2.2.2.2 hc0 hc1 hc2 hc3 hc4
        refine r_tabOut (x := v1) (tgt := 113) (tab_out (tab_cons (lo' := 1) (tab_ne hc0 (by decide)) (by decide) (tab_cons (lo' := 2) (tab_ne hc1 (by decide)) (by decide) (tab_cons (lo' := 3) (tab_ne hc2 (by decide)) (by decide) (tab_cons (lo' := 4) (tab_ne hc3 (by decide)) (by decide) (tab_cons (lo' := 5) (tab_ne hc4 (by decide)) (by decide) (tab_nil (by decide)))))))) (by decide) dX11_toldOfTable_21 ?_
        refine r_aload_n (j := 0) rfl rfl dX11_toldOfTable_113 ?_
        obtain ⟨fs_x24, x24, ha_x24, hv_x24, hf⟩ := hf
        refine r_get (Cn := RX11) (Tt := TX11) (N := 12) (n := 5) rfl uw_X11 (Nat.le_of_ble_eq_true rfl) wd_1_178 ha_x24 hv_x24 dX11_toldOfTable_114 ?_
        obtain ⟨b25, hb_b25, hf⟩ := hf
        subst hb_b25
        obtain ⟨fs_x26, x26, ha_x26, hv_x26, hf⟩ := hf
        refine r_get (Cn := RX8) (Tt := TX8) (N := 9) (n := 2) rfl uw_X8 (Nat.le_of_ble_eq_true rfl) wd_2_61 ha_x26 hv_x26 dX11_toldOfTable_117 ?_
        refine r_ifeqZ (b := x26) (tgt := 127) (by decide) dX11_toldOfTable_120 (fun hc => ?_) (fun hc => ?_)
        · replace hf := hf.1 hc
          refine r_iconst (v := 0) (by decide) dX11_toldOfTable_127 ?_
          exact r_sub [] rfl (b_X11_toldOfTable_128 hf)
        · replace hf := hf.2 hc
          refine r_iconst (v := 1) (by decide) dX11_toldOfTable_123 ?_
          refine r_goto (tgt := 128) (by decide) dX11_toldOfTable_124 ?_
          exact r_sub [] rfl (b_X11_toldOfTable_128 hf)
      · replace hf := hf.2 hc
        subst hc
        refine r_iconst (v := 0) (by decide) dX11_toldOfTable_18 ?_
        exact r_ireturn rfl dX11_toldOfTable_19 rfl ⟨_, rfl, hf⟩
    · replace hf := hf.2 hc
      exact r_sub [] rfl (b_X11_toldOfTable_9 hf)
theorem m_X11_toldOfTable {l : Launch} {G : GG} {d : Nat} {v0 : Nat} {v1 : Int32} {σ : Hp} {K : Int32 → Hp → Prop} (hr : rv σ v0 11) (hf : F_X11_toldOfTable l G d v0 v1 σ K) : C_X11_toldOfTable l G (d + 1) v0 v1 σ K := ⟨hr, Sp.of (by decide) (Nat.le_of_ble_eq_true rfl) (b_X11_toldOfTable_0 hf) rfl⟩
def F_X11_refuse (l : Launch) (G : GG) (d : Nat) (v0 : Nat) (v1 : Int32) (σ : Hp) (K : Int32 → Hp → Prop) : Prop :=
  pF σ v0 11 4 (aI v1) fun σ1 =>
  K (-1) σ1
set_option maxRecDepth 100000 in
set_option maxHeartbeats 4000000 in
theorem b_X11_refuse_0 {l : Launch} {G : GG} {d : Nat} {v0 : Nat} {v1 : Int32} {σ : Hp} {K : Int32 → Hp → Prop} (hf : F_X11_refuse l G d v0 v1 σ K) : Wd l G (d + 1) "CoinsLaid" yX11_refuse cX11_refuse 2 (some FieldType.int) 0 [(0, aR (some v0)), (1, aI v1)] [] σ 0 0 (xM (QI K)) := by
  unfold F_X11_refuse at hf
  refine r_aload_n (j := 0) rfl rfl dX11_refuse_0 ?_
  refine r_iload_n (j := 1) rfl rfl dX11_refuse_1 ?_
  obtain ⟨fs_x2, ha_x2, hf⟩ := hf
  generalize hσ1 : hset σ v0 (.inl (11, fs_x2.set 4 (aI v1))) = σ1 at hf
  refine r_put (Cn := RX11) (Tt := TX11) (N := 12) (n := 4) (v := aI v1) rfl uw_X11 (Nat.le_of_ble_eq_true rfl) wd_1_177 ha_x2 (ty0 := tyX11) tyX11_ok nmX11 rfl (fo_I v1) dX11_refuse_2 ?_
  rw [hσ1]
  refine r_iconst (v := (-1)) (by decide) dX11_refuse_5 ?_
  exact r_ireturn rfl dX11_refuse_6 rfl ⟨_, rfl, hf⟩
theorem m_X11_refuse {l : Launch} {G : GG} {d : Nat} {v0 : Nat} {v1 : Int32} {σ : Hp} {K : Int32 → Hp → Prop} (hr : rv σ v0 11) (hf : F_X11_refuse l G d v0 v1 σ K) : C_X11_refuse l G (d + 1) v0 v1 σ K := ⟨hr, Sp.of (by decide) (Nat.le_of_ble_eq_true rfl) (b_X11_refuse_0 hf) rfl⟩
def F_X11_accept (l : Launch) (G : GG) (d : Nat) (v0 : Nat) (v1 : Int32) (σ : Hp) (K : Int32 → Hp → Prop) : Prop :=
  pF σ v0 11 4 (aI 0) fun σ1 =>
  K v1 σ1
set_option maxRecDepth 100000 in
set_option maxHeartbeats 4000000 in
theorem b_X11_accept_0 {l : Launch} {G : GG} {d : Nat} {v0 : Nat} {v1 : Int32} {σ : Hp} {K : Int32 → Hp → Prop} (hf : F_X11_accept l G d v0 v1 σ K) : Wd l G (d + 1) "CoinsLaid" yX11_accept cX11_accept 2 (some FieldType.int) 0 [(0, aR (some v0)), (1, aI v1)] [] σ 0 0 (xM (QI K)) := by
  unfold F_X11_accept at hf
  refine r_aload_n (j := 0) rfl rfl dX11_accept_0 ?_
  refine r_iconst (v := 0) (by decide) dX11_accept_1 ?_
  obtain ⟨fs_x2, ha_x2, hf⟩ := hf
  generalize hσ1 : hset σ v0 (.inl (11, fs_x2.set 4 (aI 0))) = σ1 at hf
  refine r_put (Cn := RX11) (Tt := TX11) (N := 12) (n := 4) (v := aI 0) rfl uw_X11 (Nat.le_of_ble_eq_true rfl) wd_1_177 ha_x2 (ty0 := tyX11) tyX11_ok nmX11 rfl (fo_I 0) dX11_accept_2 ?_
  rw [hσ1]
  refine r_iload_n (j := 1) rfl rfl dX11_accept_5 ?_
  exact r_ireturn rfl dX11_accept_6 rfl ⟨_, rfl, hf⟩
theorem m_X11_accept {l : Launch} {G : GG} {d : Nat} {v0 : Nat} {v1 : Int32} {σ : Hp} {K : Int32 → Hp → Prop} (hr : rv σ v0 11) (hf : F_X11_accept l G d v0 v1 σ K) : C_X11_accept l G (d + 1) v0 v1 σ K := ⟨hr, Sp.of (by decide) (Nat.le_of_ble_eq_true rfl) (b_X11_accept_0 hf) rfl⟩
def F_X11_deny (l : Launch) (G : GG) (d : Nat) (v0 : Nat) (v1 : Int32) (σ : Hp) (K : Bool → Hp → Prop) : Prop :=
  pF σ v0 11 4 (aI v1) fun σ1 =>
  K false σ1
set_option maxRecDepth 100000 in
set_option maxHeartbeats 4000000 in
theorem b_X11_deny_0 {l : Launch} {G : GG} {d : Nat} {v0 : Nat} {v1 : Int32} {σ : Hp} {K : Bool → Hp → Prop} (hf : F_X11_deny l G d v0 v1 σ K) : Wd l G (d + 1) "CoinsLaid" yX11_deny cX11_deny 2 (some FieldType.boolean) 0 [(0, aR (some v0)), (1, aI v1)] [] σ 0 0 (xM (QZ K)) := by
  unfold F_X11_deny at hf
  refine r_aload_n (j := 0) rfl rfl dX11_deny_0 ?_
  refine r_iload_n (j := 1) rfl rfl dX11_deny_1 ?_
  obtain ⟨fs_x2, ha_x2, hf⟩ := hf
  generalize hσ1 : hset σ v0 (.inl (11, fs_x2.set 4 (aI v1))) = σ1 at hf
  refine r_put (Cn := RX11) (Tt := TX11) (N := 12) (n := 4) (v := aI v1) rfl uw_X11 (Nat.le_of_ble_eq_true rfl) wd_1_177 ha_x2 (ty0 := tyX11) tyX11_ok nmX11 rfl (fo_I v1) dX11_deny_2 ?_
  rw [hσ1]
  refine r_iconst (v := 0) (by decide) dX11_deny_5 ?_
  exact r_zreturn (b := false) rfl dX11_deny_6 rfl ⟨_, rfl, hf⟩
theorem m_X11_deny {l : Launch} {G : GG} {d : Nat} {v0 : Nat} {v1 : Int32} {σ : Hp} {K : Bool → Hp → Prop} (hr : rv σ v0 11) (hf : F_X11_deny l G d v0 v1 σ K) : C_X11_deny l G (d + 1) v0 v1 σ K := ⟨hr, Sp.of (by decide) (Nat.le_of_ble_eq_true rfl) (b_X11_deny_0 hf) rfl⟩
def F_X11_grant (l : Launch) (G : GG) (d : Nat) (v0 : Nat) (σ : Hp) (K : Bool → Hp → Prop) : Prop :=
  pF σ v0 11 4 (aI 0) fun σ1 =>
  K true σ1
set_option maxRecDepth 100000 in
set_option maxHeartbeats 4000000 in
theorem b_X11_grant_0 {l : Launch} {G : GG} {d : Nat} {v0 : Nat} {σ : Hp} {K : Bool → Hp → Prop} (hf : F_X11_grant l G d v0 σ K) : Wd l G (d + 1) "CoinsLaid" yX11_grant cX11_grant 1 (some FieldType.boolean) 0 [(0, aR (some v0))] [] σ 0 0 (xM (QZ K)) := by
  unfold F_X11_grant at hf
  refine r_aload_n (j := 0) rfl rfl dX11_grant_0 ?_
  refine r_iconst (v := 0) (by decide) dX11_grant_1 ?_
  obtain ⟨fs_x2, ha_x2, hf⟩ := hf
  generalize hσ1 : hset σ v0 (.inl (11, fs_x2.set 4 (aI 0))) = σ1 at hf
  refine r_put (Cn := RX11) (Tt := TX11) (N := 12) (n := 4) (v := aI 0) rfl uw_X11 (Nat.le_of_ble_eq_true rfl) wd_1_177 ha_x2 (ty0 := tyX11) tyX11_ok nmX11 rfl (fo_I 0) dX11_grant_2 ?_
  rw [hσ1]
  refine r_iconst (v := 1) (by decide) dX11_grant_5 ?_
  exact r_zreturn (b := true) rfl dX11_grant_6 rfl ⟨_, rfl, hf⟩
theorem m_X11_grant {l : Launch} {G : GG} {d : Nat} {v0 : Nat} {σ : Hp} {K : Bool → Hp → Prop} (hr : rv σ v0 11) (hf : F_X11_grant l G d v0 σ K) : C_X11_grant l G (d + 1) v0 σ K := ⟨hr, Sp.of (by decide) (Nat.le_of_ble_eq_true rfl) (b_X11_grant_0 hf) rfl⟩
def F_X11_read (l : Launch) (G : GG) (d : Nat) (v0 : Nat) (v1 : Int32) (σ : Hp) (K : Int32 → Hp → Prop) : Prop :=
  fR σ v0 11 5 fun x1 =>
  (∀ b2, x1 = some b2 →
    fN σ v0 11 6 fun x3 =>
    fN σ v0 11 7 fun x4 =>
    fI σ x4 1 2 fun x5 =>
    fN σ v0 11 7 fun x6 =>
    C_X1_next l G d x6 σ fun r8 σ7 =>
    C_X3_measured l G d x3 v1 x5 r8 σ7 fun r10 σ9 =>
    C_X11_accept l G d v0 r10 σ9 fun r12 σ11 =>
    K r12 σ11) ∧
  (x1 = none →
    C_X11_refuse l G d v0 1 σ fun r14 σ13 =>
    K r14 σ13)
set_option maxRecDepth 100000 in
set_option maxHeartbeats 4000000 in
theorem b_X11_read_0 {l : Launch} {G : GG} {d : Nat} {v0 : Nat} {v1 : Int32} {σ : Hp} {K : Int32 → Hp → Prop} (hf : F_X11_read l G d v0 v1 σ K) : Wd l G (d + 1) "CoinsLaid" yX11_read cX11_read 2 (some FieldType.int) 0 [(0, aR (some v0)), (1, aI v1)] [] σ 0 0 (xM (QI K)) := by
  unfold F_X11_read at hf
  refine r_aload_n (j := 0) rfl rfl dX11_read_0 ?_
  obtain ⟨fs_x1, x1, ha_x1, hv_x1, hf⟩ := hf
  refine r_get (Cn := RX11) (Tt := TX11) (N := 12) (n := 5) rfl uw_X11 (Nat.le_of_ble_eq_true rfl) wd_1_178 ha_x1 hv_x1 dX11_read_1 ?_
  refine r_ifnonnull (o := x1) (tgt := 13) (by decide) dX11_read_4 (fun b2 hc => ?_) (fun hc => ?_)
  · replace hf := hf.1 b2 hc
    subst hc
    refine r_aload_n (j := 0) rfl rfl dX11_read_13 ?_
    refine r_aload_n (j := 0) rfl rfl dX11_read_14 ?_
    obtain ⟨fs_x3, x3, ha_x3, hv_x3, hf⟩ := hf
    refine r_get (Cn := RX11) (Tt := TX11) (N := 12) (n := 6) rfl uw_X11 (Nat.le_of_ble_eq_true rfl) wd_1_179 ha_x3 hv_x3 dX11_read_15 ?_
    refine r_iload_n (j := 1) rfl rfl dX11_read_18 ?_
    refine r_aload_n (j := 0) rfl rfl dX11_read_19 ?_
    obtain ⟨fs_x4, x4, ha_x4, hv_x4, hf⟩ := hf
    refine r_get (Cn := RX11) (Tt := TX11) (N := 12) (n := 7) rfl uw_X11 (Nat.le_of_ble_eq_true rfl) wd_1_180 ha_x4 hv_x4 dX11_read_20 ?_
    obtain ⟨fs_x5, x5, ha_x5, hv_x5, hf⟩ := hf
    refine r_get (Cn := RX1) (Tt := TX1) (N := 4) (n := 2) rfl uw_X1 (Nat.le_of_ble_eq_true rfl) wd_1_97 ha_x5 hv_x5 dX11_read_23 ?_
    refine r_aload_n (j := 0) rfl rfl dX11_read_26 ?_
    obtain ⟨fs_x6, x6, ha_x6, hv_x6, hf⟩ := hf
    refine r_get (Cn := RX11) (Tt := TX11) (N := 12) (n := 7) rfl uw_X11 (Nat.le_of_ble_eq_true rfl) wd_1_180 ha_x6 hv_x6 dX11_read_27 ?_
    try unfold C_X1_next at hf
    obtain ⟨⟨fs_r8, ha_r8⟩, hf⟩ := hf
    refine r_invVI (t := 1) (As := []) (dz := d) (mz := 0) (sz := 0) rfl wd_4_170 wd_4_75 wd_4_76 cf_X1_next (Nat.le_refl _) (Nat.zero_le _) (Nat.zero_le _) (cat_ok (Nat.le_of_ble_eq_true rfl)) rfl rfl ha_r8 dX11_read_30 hf (fun r8 σ7 hk => ?_)
    replace hf := hk
    clear hk
    try unfold C_X3_measured at hf
    obtain ⟨⟨fs_r10, ha_r10⟩, hf⟩ := hf
    refine r_invVI (t := 3) (As := [aI v1, aI x5, aI r8]) (dz := d) (mz := 0) (sz := 0) rfl wd_5_38 wd_5_39 wd_5_40 cf_X3_measured (Nat.le_refl _) (Nat.zero_le _) (Nat.zero_le _) (cat_ok (Nat.le_of_ble_eq_true rfl)) rfl rfl ha_r10 dX11_read_33 hf (fun r10 σ9 hk => ?_)
    replace hf := hk
    clear hk
    try unfold C_X11_accept at hf
    obtain ⟨⟨fs_r12, ha_r12⟩, hf⟩ := hf
    refine r_invVI (t := 11) (As := [aI r10]) (dz := d) (mz := 0) (sz := 0) rfl wd_4_118 wd_4_120 wd_p_30 cf_X11_accept (Nat.le_refl _) (Nat.zero_le _) (Nat.zero_le _) (cat_ok (Nat.le_of_ble_eq_true rfl)) rfl rfl ha_r12 dX11_read_36 hf (fun r12 σ11 hk => ?_)
    replace hf := hk
    clear hk
    exact r_ireturn rfl dX11_read_39 rfl ⟨_, rfl, hf⟩
  · replace hf := hf.2 hc
    subst hc
    refine r_aload_n (j := 0) rfl rfl dX11_read_7 ?_
    refine r_iconst (v := 1) (by decide) dX11_read_8 ?_
    try unfold C_X11_refuse at hf
    obtain ⟨⟨fs_r14, ha_r14⟩, hf⟩ := hf
    refine r_invVI (t := 11) (As := [aI 1]) (dz := d) (mz := 0) (sz := 0) rfl wd_1_222 wd_1_224 wd_p_1 cf_X11_refuse (Nat.le_refl _) (Nat.zero_le _) (Nat.zero_le _) (cat_ok (Nat.le_of_ble_eq_true rfl)) rfl rfl ha_r14 dX11_read_9 hf (fun r14 σ13 hk => ?_)
    replace hf := hk
    clear hk
    exact r_ireturn rfl dX11_read_12 rfl ⟨_, rfl, hf⟩
theorem m_X11_read {l : Launch} {G : GG} {d : Nat} {v0 : Nat} {v1 : Int32} {σ : Hp} {K : Int32 → Hp → Prop} (hr : rv σ v0 11) (hf : F_X11_read l G d v0 v1 σ K) : C_X11_read l G (d + 1) v0 v1 σ K := ⟨hr, Sp.of (by decide) (Nat.le_of_ble_eq_true rfl) (b_X11_read_0 hf) rfl⟩
def F_X11_layNumbered_19 (l : Launch) (G : GG) (d : Nat) (s0 : Option Nat) (σ : Hp) (K : Option Nat → Hp → Prop) : Prop :=
  K s0 σ
set_option maxRecDepth 100000 in
set_option maxHeartbeats 4000000 in
theorem b_X11_layNumbered_19 {l : Launch} {G : GG} {d : Nat} {s0 : Option Nat} {σ : Hp} {K : Option Nat → Hp → Prop} (hf : F_X11_layNumbered_19 l G d s0 σ K) : Wd l G (d + 1) "CoinsLaid" yX11_layNumbered cX11_layNumbered 2 (some (FieldType.object "CoinsLaid$Lay")) 19 [] [aR s0] σ 0 0 (xM (QR K)) := by
  unfold F_X11_layNumbered_19 at hf
  exact r_areturn rfl (Or.inl ⟨_, rfl⟩) dX11_layNumbered_19 rfl ⟨_, rfl, hf⟩
def F_X11_layNumbered (l : Launch) (G : GG) (d : Nat) (v0 : Nat) (v1 : Int32) (σ : Hp) (K : Option Nat → Hp → Prop) : Prop :=
  fR σ v0 11 5 fun x1 =>
  (∀ b2, x1 = some b2 →
    fR σ v0 11 5 fun x3 =>
    ∃ b4, x3 = some b4 ∧
    C_X8_layNumbered l G d b4 v1 σ fun r6 σ5 =>
    F_X11_layNumbered_19 l G d r6 σ5 K) ∧
  (x1 = none →
    F_X11_layNumbered_19 l G d none σ K)
set_option maxRecDepth 100000 in
set_option maxHeartbeats 4000000 in
theorem b_X11_layNumbered_0 {l : Launch} {G : GG} {d : Nat} {v0 : Nat} {v1 : Int32} {σ : Hp} {K : Option Nat → Hp → Prop} (hf : F_X11_layNumbered l G d v0 v1 σ K) : Wd l G (d + 1) "CoinsLaid" yX11_layNumbered cX11_layNumbered 2 (some (FieldType.object "CoinsLaid$Lay")) 0 [(0, aR (some v0)), (1, aI v1)] [] σ 0 0 (xM (QR K)) := by
  unfold F_X11_layNumbered at hf
  refine r_aload_n (j := 0) rfl rfl dX11_layNumbered_0 ?_
  obtain ⟨fs_x1, x1, ha_x1, hv_x1, hf⟩ := hf
  refine r_get (Cn := RX11) (Tt := TX11) (N := 12) (n := 5) rfl uw_X11 (Nat.le_of_ble_eq_true rfl) wd_1_178 ha_x1 hv_x1 dX11_layNumbered_1 ?_
  refine r_ifnonnull (o := x1) (tgt := 11) (by decide) dX11_layNumbered_4 (fun b2 hc => ?_) (fun hc => ?_)
  · replace hf := hf.1 b2 hc
    subst hc
    refine r_aload_n (j := 0) rfl rfl dX11_layNumbered_11 ?_
    obtain ⟨fs_x3, x3, ha_x3, hv_x3, hf⟩ := hf
    refine r_get (Cn := RX11) (Tt := TX11) (N := 12) (n := 5) rfl uw_X11 (Nat.le_of_ble_eq_true rfl) wd_1_178 ha_x3 hv_x3 dX11_layNumbered_12 ?_
    refine r_iload_n (j := 1) rfl rfl dX11_layNumbered_15 ?_
    obtain ⟨b4, hb_b4, hf⟩ := hf
    subst hb_b4
    try unfold C_X8_layNumbered at hf
    obtain ⟨⟨fs_r6, ha_r6⟩, hf⟩ := hf
    refine r_invVR (t := 8) (As := [aI v1]) (dz := d) (mz := 0) (sz := 0) rfl wd_4_138 wd_4_71 wd_4_72 cf_X8_layNumbered (Nat.le_refl _) (Nat.zero_le _) (Nat.zero_le _) (cat_ok (Nat.le_of_ble_eq_true rfl)) rfl rfl ha_r6 dX11_layNumbered_16 hf (fun r6 σ5 hk => ?_)
    replace hf := hk
    clear hk
    exact r_sub [] rfl (b_X11_layNumbered_19 hf)
  · replace hf := hf.2 hc
    subst hc
    refine r_null dX11_layNumbered_7 ?_
    refine r_goto (tgt := 19) (by decide) dX11_layNumbered_8 ?_
    exact r_sub [] rfl (b_X11_layNumbered_19 hf)
theorem m_X11_layNumbered {l : Launch} {G : GG} {d : Nat} {v0 : Nat} {v1 : Int32} {σ : Hp} {K : Option Nat → Hp → Prop} (hr : rv σ v0 11) (hf : F_X11_layNumbered l G d v0 v1 σ K) : C_X11_layNumbered l G (d + 1) v0 v1 σ K := ⟨hr, Sp.of (by decide) (Nat.le_of_ble_eq_true rfl) (b_X11_layNumbered_0 hf) rfl⟩
def F_X11_isOver_37 (l : Launch) (G : GG) (d : Nat) (s0 : Bool) (σ : Hp) (K : Bool → Hp → Prop) : Prop :=
  K s0 σ
set_option maxRecDepth 100000 in
set_option maxHeartbeats 4000000 in
theorem b_X11_isOver_37 {l : Launch} {G : GG} {d : Nat} {s0 : Bool} {σ : Hp} {K : Bool → Hp → Prop} (hf : F_X11_isOver_37 l G d s0 σ K) : Wd l G (d + 1) "CoinsLaid" yX11_isOver cX11_isOver 1 (some FieldType.boolean) 37 [] [aI (bi s0)] σ 0 0 (xM (QZ K)) := by
  unfold F_X11_isOver_37 at hf
  exact r_zreturn (b := s0) rfl dX11_isOver_37 rfl ⟨_, rfl, hf⟩
def F_X11_isOver_32 (l : Launch) (G : GG) (d : Nat) (σ : Hp) (K : Bool → Hp → Prop) : Prop :=
  F_X11_isOver_37 l G d true σ K
set_option maxRecDepth 100000 in
set_option maxHeartbeats 4000000 in
theorem b_X11_isOver_32 {l : Launch} {G : GG} {d : Nat} {σ : Hp} {K : Bool → Hp → Prop} (hf : F_X11_isOver_32 l G d  σ K) : Wd l G (d + 1) "CoinsLaid" yX11_isOver cX11_isOver 1 (some FieldType.boolean) 32 [] [] σ 0 0 (xM (QZ K)) := by
  unfold F_X11_isOver_32 at hf
  refine r_iconst (v := 1) (by decide) dX11_isOver_32 ?_
  refine r_goto (tgt := 37) (by decide) dX11_isOver_33 ?_
  exact r_sub [] rfl (b_X11_isOver_37 hf)
def F_X11_isOver (l : Launch) (G : GG) (d : Nat) (v0 : Nat) (σ : Hp) (K : Bool → Hp → Prop) : Prop :=
  fR σ v0 11 5 fun x1 =>
  (x1 = none →
    F_X11_isOver_32 l G d σ K) ∧
  (∀ b2, x1 = some b2 →
    fR σ v0 11 5 fun x3 =>
    fN σ v0 11 7 fun x4 =>
    fI σ x4 1 2 fun x5 =>
    fN σ v0 11 7 fun x6 =>
    C_X1_next l G d x6 σ fun r8 σ7 =>
    ∃ b9, x3 = some b9 ∧
    C_X8_thatMay l G d b9 x5 r8 0 σ7 fun r11 σ10 =>
    (∀ b12, r11 = some b12 →
      F_X11_isOver_37 l G d false σ10 K) ∧
    (r11 = none →
      F_X11_isOver_32 l G d σ10 K))
set_option maxRecDepth 100000 in
set_option maxHeartbeats 4000000 in
theorem b_X11_isOver_0 {l : Launch} {G : GG} {d : Nat} {v0 : Nat} {σ : Hp} {K : Bool → Hp → Prop} (hf : F_X11_isOver l G d v0 σ K) : Wd l G (d + 1) "CoinsLaid" yX11_isOver cX11_isOver 1 (some FieldType.boolean) 0 [(0, aR (some v0))] [] σ 0 0 (xM (QZ K)) := by
  unfold F_X11_isOver at hf
  refine r_aload_n (j := 0) rfl rfl dX11_isOver_0 ?_
  obtain ⟨fs_x1, x1, ha_x1, hv_x1, hf⟩ := hf
  refine r_get (Cn := RX11) (Tt := TX11) (N := 12) (n := 5) rfl uw_X11 (Nat.le_of_ble_eq_true rfl) wd_1_178 ha_x1 hv_x1 dX11_isOver_1 ?_
  refine r_ifnull (o := x1) (tgt := 32) (by decide) dX11_isOver_4 (fun hc => ?_) (fun b2 hc => ?_)
  · replace hf := hf.1 hc
    subst hc
    exact r_sub [] rfl (b_X11_isOver_32 hf)
  · replace hf := hf.2 b2 hc
    subst hc
    refine r_aload_n (j := 0) rfl rfl dX11_isOver_7 ?_
    obtain ⟨fs_x3, x3, ha_x3, hv_x3, hf⟩ := hf
    refine r_get (Cn := RX11) (Tt := TX11) (N := 12) (n := 5) rfl uw_X11 (Nat.le_of_ble_eq_true rfl) wd_1_178 ha_x3 hv_x3 dX11_isOver_8 ?_
    refine r_aload_n (j := 0) rfl rfl dX11_isOver_11 ?_
    obtain ⟨fs_x4, x4, ha_x4, hv_x4, hf⟩ := hf
    refine r_get (Cn := RX11) (Tt := TX11) (N := 12) (n := 7) rfl uw_X11 (Nat.le_of_ble_eq_true rfl) wd_1_180 ha_x4 hv_x4 dX11_isOver_12 ?_
    obtain ⟨fs_x5, x5, ha_x5, hv_x5, hf⟩ := hf
    refine r_get (Cn := RX1) (Tt := TX1) (N := 4) (n := 2) rfl uw_X1 (Nat.le_of_ble_eq_true rfl) wd_1_97 ha_x5 hv_x5 dX11_isOver_15 ?_
    refine r_aload_n (j := 0) rfl rfl dX11_isOver_18 ?_
    obtain ⟨fs_x6, x6, ha_x6, hv_x6, hf⟩ := hf
    refine r_get (Cn := RX11) (Tt := TX11) (N := 12) (n := 7) rfl uw_X11 (Nat.le_of_ble_eq_true rfl) wd_1_180 ha_x6 hv_x6 dX11_isOver_19 ?_
    try unfold C_X1_next at hf
    obtain ⟨⟨fs_r8, ha_r8⟩, hf⟩ := hf
    refine r_invVI (t := 1) (As := []) (dz := d) (mz := 0) (sz := 0) rfl wd_4_170 wd_4_75 wd_4_76 cf_X1_next (Nat.le_refl _) (Nat.zero_le _) (Nat.zero_le _) (cat_ok (Nat.le_of_ble_eq_true rfl)) rfl rfl ha_r8 dX11_isOver_22 hf (fun r8 σ7 hk => ?_)
    replace hf := hk
    clear hk
    refine r_iconst (v := 0) (by decide) dX11_isOver_25 ?_
    obtain ⟨b9, hb_b9, hf⟩ := hf
    subst hb_b9
    try unfold C_X8_thatMay at hf
    obtain ⟨⟨fs_r11, ha_r11⟩, hf⟩ := hf
    refine r_invVR (t := 8) (As := [aI x5, aI r8, aI 0]) (dz := d) (mz := 0) (sz := 0) rfl wd_4_185 wd_4_186 wd_4_187 cf_X8_thatMay (Nat.le_refl _) (Nat.zero_le _) (Nat.zero_le _) (cat_ok (Nat.le_of_ble_eq_true rfl)) rfl rfl ha_r11 dX11_isOver_26 hf (fun r11 σ10 hk => ?_)
    replace hf := hk
    clear hk
    refine r_ifnonnull (o := r11) (tgt := 36) (by decide) dX11_isOver_29 (fun b12 hc => ?_) (fun hc => ?_)
    · replace hf := hf.1 b12 hc
      subst hc
      refine r_iconst (v := 0) (by decide) dX11_isOver_36 ?_
      exact r_sub [] rfl (b_X11_isOver_37 hf)
    · replace hf := hf.2 hc
      subst hc
      exact r_sub [] rfl (b_X11_isOver_32 hf)
theorem m_X11_isOver {l : Launch} {G : GG} {d : Nat} {v0 : Nat} {σ : Hp} {K : Bool → Hp → Prop} (hr : rv σ v0 11) (hf : F_X11_isOver l G d v0 σ K) : C_X11_isOver l G (d + 1) v0 σ K := ⟨hr, Sp.of (by decide) (Nat.le_of_ble_eq_true rfl) (b_X11_isOver_0 hf) rfl⟩
def F_X11_winnerBehind_28 (l : Launch) (G : GG) (d : Nat) (s0 : Int32) (σ : Hp) (K : Int32 → Hp → Prop) : Prop :=
  K s0 σ
set_option maxRecDepth 100000 in
set_option maxHeartbeats 4000000 in
theorem b_X11_winnerBehind_28 {l : Launch} {G : GG} {d : Nat} {s0 : Int32} {σ : Hp} {K : Int32 → Hp → Prop} (hf : F_X11_winnerBehind_28 l G d s0 σ K) : Wd l G (d + 1) "CoinsLaid" yX11_winnerBehind cX11_winnerBehind 3 (some FieldType.int) 28 [] [aI s0] σ 0 0 (xM (QI K)) := by
  unfold F_X11_winnerBehind_28 at hf
  exact r_ireturn rfl dX11_winnerBehind_28 rfl ⟨_, rfl, hf⟩
def F_X11_winnerBehind_25 (l : Launch) (G : GG) (d : Nat) (v2 : Int32) (σ : Hp) (K : Int32 → Hp → Prop) : Prop :=
  F_X11_winnerBehind_28 l G d (1 - v2) σ K
set_option maxRecDepth 100000 in
set_option maxHeartbeats 4000000 in
theorem b_X11_winnerBehind_25 {l : Launch} {G : GG} {d : Nat} {v2 : Int32} {σ : Hp} {K : Int32 → Hp → Prop} (hf : F_X11_winnerBehind_25 l G d v2 σ K) : Wd l G (d + 1) "CoinsLaid" yX11_winnerBehind cX11_winnerBehind 3 (some FieldType.int) 25 [(2, aI v2)] [] σ 0 0 (xM (QI K)) := by
  unfold F_X11_winnerBehind_25 at hf
  refine r_iconst (v := 1) (by decide) dX11_winnerBehind_25 ?_
  refine r_iload_n (j := 0) rfl rfl dX11_winnerBehind_26 ?_
  refine r_isub (x := 1) (y := v2) dX11_winnerBehind_27 ?_
  exact r_sub [] rfl (b_X11_winnerBehind_28 hf)
def F_X11_winnerBehind (l : Launch) (G : GG) (d : Nat) (v0 : Nat) (v1 : Int32) (σ : Hp) (K : Int32 → Hp → Prop) : Prop :=
  fR σ v0 11 5 fun x1 =>
  (x1 = none →
    F_X11_winnerBehind_25 l G d (v1 &&& 1) σ K) ∧
  (∀ b2, x1 = some b2 →
    fR σ v0 11 5 fun x3 =>
    ∃ b4, x3 = some b4 ∧
    fZ σ b4 8 1 fun x5 =>
    (x5 = false →
      F_X11_winnerBehind_25 l G d (v1 &&& 1) σ K) ∧
    (x5 = true →
      F_X11_winnerBehind_28 l G d (v1 &&& 1) σ K))
set_option maxRecDepth 100000 in
set_option maxHeartbeats 4000000 in
theorem b_X11_winnerBehind_0 {l : Launch} {G : GG} {d : Nat} {v0 : Nat} {v1 : Int32} {σ : Hp} {K : Int32 → Hp → Prop} (hf : F_X11_winnerBehind l G d v0 v1 σ K) : Wd l G (d + 1) "CoinsLaid" yX11_winnerBehind cX11_winnerBehind 3 (some FieldType.int) 0 [(0, aR (some v0)), (1, aI v1)] [] σ 0 0 (xM (QI K)) := by
  unfold F_X11_winnerBehind at hf
  refine r_iload_n (j := 1) rfl rfl dX11_winnerBehind_0 ?_
  refine r_iconst (v := 1) (by decide) dX11_winnerBehind_1 ?_
  refine r_iand (x := v1) (y := 1) dX11_winnerBehind_2 ?_
  refine r_istore_n (L' := [(2, aI (v1 &&& 1)), (0, aR (some v0)), (1, aI v1)]) rfl rfl (Nat.le_of_ble_eq_true rfl) dX11_winnerBehind_3 ?_
  refine r_aload_n (j := 1) rfl rfl dX11_winnerBehind_4 ?_
  obtain ⟨fs_x1, x1, ha_x1, hv_x1, hf⟩ := hf
  refine r_get (Cn := RX11) (Tt := TX11) (N := 12) (n := 5) rfl uw_X11 (Nat.le_of_ble_eq_true rfl) wd_1_178 ha_x1 hv_x1 dX11_winnerBehind_5 ?_
  refine r_ifnull (o := x1) (tgt := 25) (by decide) dX11_winnerBehind_8 (fun hc => ?_) (fun b2 hc => ?_)
  · replace hf := hf.1 hc
    subst hc
    exact r_sub [0] rfl (b_X11_winnerBehind_25 hf)
  · replace hf := hf.2 b2 hc
    subst hc
    refine r_aload_n (j := 1) rfl rfl dX11_winnerBehind_11 ?_
    obtain ⟨fs_x3, x3, ha_x3, hv_x3, hf⟩ := hf
    refine r_get (Cn := RX11) (Tt := TX11) (N := 12) (n := 5) rfl uw_X11 (Nat.le_of_ble_eq_true rfl) wd_1_178 ha_x3 hv_x3 dX11_winnerBehind_12 ?_
    obtain ⟨b4, hb_b4, hf⟩ := hf
    subst hb_b4
    obtain ⟨fs_x5, x5, ha_x5, hv_x5, hf⟩ := hf
    refine r_get (Cn := RX8) (Tt := TX8) (N := 9) (n := 1) rfl uw_X8 (Nat.le_of_ble_eq_true rfl) wd_2_58 ha_x5 hv_x5 dX11_winnerBehind_15 ?_
    refine r_ifeqZ (b := x5) (tgt := 25) (by decide) dX11_winnerBehind_18 (fun hc => ?_) (fun hc => ?_)
    · replace hf := hf.1 hc
      exact r_sub [0] rfl (b_X11_winnerBehind_25 hf)
    · replace hf := hf.2 hc
      refine r_iload_n (j := 0) rfl rfl dX11_winnerBehind_21 ?_
      refine r_goto (tgt := 28) (by decide) dX11_winnerBehind_22 ?_
      exact r_sub [] rfl (b_X11_winnerBehind_28 hf)
theorem m_X11_winnerBehind {l : Launch} {G : GG} {d : Nat} {v0 : Nat} {v1 : Int32} {σ : Hp} {K : Int32 → Hp → Prop} (hr : rv σ v0 11) (hf : F_X11_winnerBehind l G d v0 v1 σ K) : C_X11_winnerBehind l G (d + 1) v0 v1 σ K := ⟨hr, Sp.of (by decide) (Nat.le_of_ble_eq_true rfl) (b_X11_winnerBehind_0 hf) rfl⟩
def F_X11_numberOf_13 (l : Launch) (G : GG) (d : Nat) (s0 : Int32) (σ : Hp) (K : Int32 → Hp → Prop) : Prop :=
  K s0 σ
set_option maxRecDepth 100000 in
set_option maxHeartbeats 4000000 in
theorem b_X11_numberOf_13 {l : Launch} {G : GG} {d : Nat} {s0 : Int32} {σ : Hp} {K : Int32 → Hp → Prop} (hf : F_X11_numberOf_13 l G d s0 σ K) : Wd l G (d + 1) "CoinsLaid" yX11_numberOf cX11_numberOf 1 (some FieldType.int) 13 [] [aI s0] σ 0 0 (xM (QI K)) := by
  unfold F_X11_numberOf_13 at hf
  exact r_ireturn rfl dX11_numberOf_13 rfl ⟨_, rfl, hf⟩
def F_X11_numberOf (l : Launch) (G : GG) (d : Nat) (v0 : Option Nat) (σ : Hp) (K : Int32 → Hp → Prop) : Prop :=
  (∀ b1, v0 = some b1 →
    fI σ b1 2 0 fun x2 =>
    F_X11_numberOf_13 l G d x2 σ K) ∧
  (v0 = none →
    F_X11_numberOf_13 l G d (-2) σ K)
set_option maxRecDepth 100000 in
set_option maxHeartbeats 4000000 in
theorem b_X11_numberOf_0 {l : Launch} {G : GG} {d : Nat} {v0 : Option Nat} {σ : Hp} {K : Int32 → Hp → Prop} (hf : F_X11_numberOf l G d v0 σ K) : Wd l G (d + 1) "CoinsLaid" yX11_numberOf cX11_numberOf 1 (some FieldType.int) 0 [(0, aR v0)] [] σ 0 0 (xM (QI K)) := by
  unfold F_X11_numberOf at hf
  refine r_aload_n (j := 0) rfl rfl dX11_numberOf_0 ?_
  refine r_ifnonnull (o := v0) (tgt := 9) (by decide) dX11_numberOf_1 (fun b1 hc => ?_) (fun hc => ?_)
  · replace hf := hf.1 b1 hc
    subst hc
    refine r_aload_n (j := 0) rfl rfl dX11_numberOf_9 ?_
    obtain ⟨fs_x2, x2, ha_x2, hv_x2, hf⟩ := hf
    refine r_get (Cn := RX2) (Tt := TX2) (N := 9) (n := 0) rfl uw_X2 (Nat.le_of_ble_eq_true rfl) wd_4_20 ha_x2 hv_x2 dX11_numberOf_10 ?_
    exact r_sub [] rfl (b_X11_numberOf_13 hf)
  · replace hf := hf.2 hc
    subst hc
    refine r_bipush (v := (-2)) (by decide) dX11_numberOf_4 ?_
    refine r_goto (tgt := 13) (by decide) dX11_numberOf_6 ?_
    exact r_sub [] rfl (b_X11_numberOf_13 hf)
theorem m_X11_numberOf {l : Launch} {G : GG} {d : Nat} {v0 : Option Nat} {σ : Hp} {K : Int32 → Hp → Prop} (hf : F_X11_numberOf l G d v0 σ K) : C_X11_numberOf l G (d + 1) v0 σ K := Sp.of (by decide) (Nat.le_of_ble_eq_true rfl) (b_X11_numberOf_0 hf) rfl
def F_X11_isPlayer_14 (l : Launch) (G : GG) (d : Nat) (s0 : Bool) (σ : Hp) (K : Bool → Hp → Prop) : Prop :=
  K s0 σ
set_option maxRecDepth 100000 in
set_option maxHeartbeats 4000000 in
theorem b_X11_isPlayer_14 {l : Launch} {G : GG} {d : Nat} {s0 : Bool} {σ : Hp} {K : Bool → Hp → Prop} (hf : F_X11_isPlayer_14 l G d s0 σ K) : Wd l G (d + 1) "CoinsLaid" yX11_isPlayer cX11_isPlayer 1 (some FieldType.boolean) 14 [] [aI (bi s0)] σ 0 0 (xM (QZ K)) := by
  unfold F_X11_isPlayer_14 at hf
  exact r_zreturn (b := s0) rfl dX11_isPlayer_14 rfl ⟨_, rfl, hf⟩
def F_X11_isPlayer_13 (l : Launch) (G : GG) (d : Nat) (σ : Hp) (K : Bool → Hp → Prop) : Prop :=
  F_X11_isPlayer_14 l G d false σ K
set_option maxRecDepth 100000 in
set_option maxHeartbeats 4000000 in
theorem b_X11_isPlayer_13 {l : Launch} {G : GG} {d : Nat} {σ : Hp} {K : Bool → Hp → Prop} (hf : F_X11_isPlayer_13 l G d  σ K) : Wd l G (d + 1) "CoinsLaid" yX11_isPlayer cX11_isPlayer 1 (some FieldType.boolean) 13 [] [] σ 0 0 (xM (QZ K)) := by
  unfold F_X11_isPlayer_13 at hf
  refine r_iconst (v := 0) (by decide) dX11_isPlayer_13 ?_
  exact r_sub [] rfl (b_X11_isPlayer_14 hf)
def F_X11_isPlayer (l : Launch) (G : GG) (d : Nat) (v0 : Int32) (σ : Hp) (K : Bool → Hp → Prop) : Prop :=
  ((v0 : Int32) < 0 →
    F_X11_isPlayer_13 l G d σ K) ∧
  (¬ (v0 : Int32) < 0 →
    ((5 : Int32) ≤ (v0 : Int32) →
      F_X11_isPlayer_13 l G d σ K) ∧
    (¬ (5 : Int32) ≤ (v0 : Int32) →
      F_X11_isPlayer_14 l G d true σ K))
set_option maxRecDepth 100000 in
set_option maxHeartbeats 4000000 in
theorem b_X11_isPlayer_0 {l : Launch} {G : GG} {d : Nat} {v0 : Int32} {σ : Hp} {K : Bool → Hp → Prop} (hf : F_X11_isPlayer l G d v0 σ K) : Wd l G (d + 1) "CoinsLaid" yX11_isPlayer cX11_isPlayer 1 (some FieldType.boolean) 0 [(0, aI v0)] [] σ 0 0 (xM (QZ K)) := by
  unfold F_X11_isPlayer at hf
  refine r_iload_n (j := 0) rfl rfl dX11_isPlayer_0 ?_
  refine r_iflt (x := v0) (tgt := 13) (by decide) dX11_isPlayer_1 (fun hc => ?_) (fun hc => ?_)
  · replace hf := hf.1 hc
    exact r_sub [] rfl (b_X11_isPlayer_13 hf)
  · replace hf := hf.2 hc
    refine r_iload_n (j := 0) rfl rfl dX11_isPlayer_4 ?_
    refine r_iconst (v := 5) (by decide) dX11_isPlayer_5 ?_
    refine r_icmpge (x := v0) (y := 5) (tgt := 13) (by decide) dX11_isPlayer_6 (fun hc => ?_) (fun hc => ?_)
    · replace hf := hf.1 hc
      exact r_sub [] rfl (b_X11_isPlayer_13 hf)
    · replace hf := hf.2 hc
      refine r_iconst (v := 1) (by decide) dX11_isPlayer_9 ?_
      refine r_goto (tgt := 14) (by decide) dX11_isPlayer_10 ?_
      exact r_sub [] rfl (b_X11_isPlayer_14 hf)
theorem m_X11_isPlayer {l : Launch} {G : GG} {d : Nat} {v0 : Int32} {σ : Hp} {K : Bool → Hp → Prop} (hf : F_X11_isPlayer l G d v0 σ K) : C_X11_isPlayer l G (d + 1) v0 σ K := Sp.of (by decide) (Nat.le_of_ble_eq_true rfl) (b_X11_isPlayer_0 hf) rfl
