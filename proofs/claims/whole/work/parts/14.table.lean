/-! 14.table: written by wip/whole/gen.py -/
def F_X8_init (l : Launch) (G : GG) (d : Nat) (v0 : Nat) (σ : Hp) (bc bs : Nat) (K : Hp → Prop) : Prop :=
  nO σ 13 [aI 0, aR none, aI 0] 3 bc bs fun q1 σ2 =>
  C_Jx4a65c_init_da8c8 l G d q1 σ2 fun σ3 =>
  pF σ3 v0 8 3 (aR (some q1)) fun σ5 =>
  nO σ5 13 [aI 0, aR none, aI 0] 3 (bc - 1) (bs - 3) fun q7 σ8 =>
  C_Jx4a65c_init_da8c8 l G d q7 σ8 fun σ9 =>
  pF σ9 v0 8 4 (aR (some q7)) fun σ11 =>
  nA_ 3 σ11 0 ((bc - 1) - 1) ((bs - 3) - 3) fun N15 q13 σ14 =>
  pF σ14 v0 8 8 (aR (some q13)) fun σ16 =>
  K σ16
set_option maxRecDepth 100000 in
set_option maxHeartbeats 4000000 in
theorem b_X8_init_0 {l : Launch} {G : GG} {d : Nat} {v0 : Nat} {σ : Hp} {bc bs : Nat} {K : Hp → Prop} (hf : F_X8_init l G d v0 σ bc bs K) : Wd l G (d + 1) "CoinsLaid$Table" yX8_init cX8_init 1 none 0 [(0, aR (some v0))] [] σ bc bs (xM (QV K)) := by
  unfold F_X8_init at hf
  refine r_aload_n (j := 0) rfl rfl dX8_init_0 ?_
  refine r_objInit wd_2_26 wd_1_37 wd_1_38 (Nat.le_add_left 1 d) (cat_ok (Nat.le_of_ble_eq_true rfl)) dX8_init_1 ?_
  refine r_aload_n (j := 0) rfl rfl dX8_init_4 ?_
  obtain ⟨hbc, hbs, hf⟩ := hf
  refine r_new (t := 13) (Cn := RJx4a65c) (Tt := TJx4a65c) (N := 3) (fs := [aI 0, aR none, aI 0]) (ty0 := tyJx4a65c) rfl uw_J tyJx4a65c_ok wd_2_27 wd_2_28 wd_1_13 rfl dfv_J hbc hbs dX8_init_5 (fun q1 hq_q1 => ?_)
  replace hf := hf q1 hq_q1
  generalize hset σ q1 (.inl (13, [aI 0, aR none, aI 0])) = σ2 at hf ⊢
  refine r_dup rfl dX8_init_8 ?_
  try unfold C_Jx4a65c_init_da8c8 at hf
  refine r_invIU (As := []) (dz := d) (mz := 0) (sz := 0) rfl wd_2_29 wd_2_30 rfl rfl cf_Jx4a65c_init_da8c8 (Nat.le_refl _) (Nat.zero_le _) (Nat.zero_le _) (cat_ok (Nat.le_of_ble_eq_true rfl)) dX8_init_9 hf (fun σ3 hk => ?_)
  replace hf := hk
  clear hk
  obtain ⟨fs_x6, ha_x6, hf⟩ := hf
  generalize hσ5 : hset σ3 v0 (.inl (8, fs_x6.set 3 (aR (some q1)))) = σ5 at hf
  refine r_putF (Cn := RX8) (Tt := TX8) (N := 9) (n := 3) (v := aR (some q1)) rfl uw_X8 (Nat.le_of_ble_eq_true rfl) wd_2_62 ha_x6 (ty0 := tyX8) tyX8_ok nmX8 rfl rfl rfl (fo_R _ (some q1)) dX8_init_12 ?_
  rw [hσ5]
  refine r_aload_n (j := 0) rfl rfl dX8_init_15 ?_
  obtain ⟨hbc, hbs, hf⟩ := hf
  refine r_new (t := 13) (Cn := RJx4a65c) (Tt := TJx4a65c) (N := 3) (fs := [aI 0, aR none, aI 0]) (ty0 := tyJx4a65c) rfl uw_J tyJx4a65c_ok wd_2_27 wd_2_28 wd_1_13 rfl dfv_J hbc hbs dX8_init_16 (fun q7 hq_q7 => ?_)
  replace hf := hf q7 hq_q7
  generalize hset σ5 q7 (.inl (13, [aI 0, aR none, aI 0])) = σ8 at hf ⊢
  refine r_dup rfl dX8_init_19 ?_
  try unfold C_Jx4a65c_init_da8c8 at hf
  refine r_invIU (As := []) (dz := d) (mz := 0) (sz := 0) rfl wd_2_29 wd_2_30 rfl rfl cf_Jx4a65c_init_da8c8 (Nat.le_refl _) (Nat.zero_le _) (Nat.zero_le _) (cat_ok (Nat.le_of_ble_eq_true rfl)) dX8_init_20 hf (fun σ9 hk => ?_)
  replace hf := hk
  clear hk
  obtain ⟨fs_x12, ha_x12, hf⟩ := hf
  generalize hσ11 : hset σ9 v0 (.inl (8, fs_x12.set 4 (aR (some q7)))) = σ11 at hf
  refine r_putF (Cn := RX8) (Tt := TX8) (N := 9) (n := 4) (v := aR (some q7)) rfl uw_X8 (Nat.le_of_ble_eq_true rfl) wd_2_66 ha_x12 (ty0 := tyX8) tyX8_ok nmX8 rfl rfl rfl (fo_R _ (some q7)) dX8_init_23 ?_
  rw [hσ11]
  refine r_aload_n (j := 0) rfl rfl dX8_init_26 ?_
  refine r_iconst (v := 0) (by decide) dX8_init_27 ?_
  obtain ⟨N15, hn_N15, hl_N15, hbc, hbs, hf⟩ := hf
  refine r_newA3 wd_2_53 hn_N15 hl_N15 hbc hbs dX8_init_28 (fun q13 hq_q13 => ?_)
  replace hf := hf q13 hq_q13
  refine Eq.mpr (congrArg (fun z => Wd _ _ _ _ _ _ _ _ _ _ _ z _ _ _) (rfl : _ = hset σ11 q13 (rA 3 N15 fun _ => none))) ?_
  generalize hset σ11 q13 (rA 3 N15 fun _ => none) = σ14 at hf ⊢
  obtain ⟨fs_x17, ha_x17, hf⟩ := hf
  generalize hσ16 : hset σ14 v0 (.inl (8, fs_x17.set 8 (aR (some q13)))) = σ16 at hf
  refine r_put (Cn := RX8) (Tt := TX8) (N := 9) (n := 8) (v := aR (some q13)) rfl uw_X8 (Nat.le_of_ble_eq_true rfl) wd_2_79 ha_x17 (ty0 := tyX8) tyX8_ok nmX8 rfl (fo_A _ (some q13)) dX8_init_31 ?_
  rw [hσ16]
  exact r_return rfl dX8_init_34 rfl ⟨rfl, hf⟩
theorem m_X8_init {l : Launch} {G : GG} {d : Nat} {mc ms : Nat} {v0 : Nat} {σ : Hp} {K : Hp → Prop} (hf : F_X8_init l G d v0 σ mc ms K) : C_X8_init l G (d + 1) mc ms v0 σ K := Sp.of (by decide) (Nat.le_of_ble_eq_true rfl) (b_X8_init_0 hf) rfl
def F_X8_addBoard (l : Launch) (G : GG) (d : Nat) (v0 : Nat) (v1 : Int64) (v3 : Int32) (v4 : Int32) (σ : Hp) (bc bs : Nat) (K : Hp → Prop) : Prop :=
  fN σ v0 8 3 fun x1 =>
  nO σ 0 [aI 0, aJ 0, aI 0, aI 0, aI 0] 5 bc bs fun q2 σ3 =>
  fN σ3 v0 8 3 fun x4 =>
  C_Jx4a65c_size_8abf5 l G d x4 σ3 fun r6 σ5 =>
  fI σ5 v0 8 5 fun x7 =>
  C_X0_init l G d q2 r6 v1 v3 v4 x7 σ5 fun σ8 =>
  ∃ mz12 sz13, mz12 ≤ (bc - 1) ∧ sz13 ≤ (bs - 5) ∧ C_Jx4a65c_add_9ea2d l G d mz12 sz13 x1 q2 σ8 fun r11 σ10 =>
  fI σ10 v0 8 5 fun x14 =>
  pF σ10 v0 8 5 (aI (x14 + (v3 * v4))) fun σ15 =>
  K σ15
set_option maxRecDepth 100000 in
set_option maxHeartbeats 4000000 in
theorem b_X8_addBoard_0 {l : Launch} {G : GG} {d : Nat} {v0 : Nat} {v1 : Int64} {v3 : Int32} {v4 : Int32} {σ : Hp} {bc bs : Nat} {K : Hp → Prop} (hf : F_X8_addBoard l G d v0 v1 v3 v4 σ bc bs K) : Wd l G (d + 1) "CoinsLaid$Table" yX8_addBoard cX8_addBoard 5 none 0 [(0, aR (some v0)), (1, aJ v1), (3, aI v3), (4, aI v4)] [] σ bc bs (xM (QV K)) := by
  unfold F_X8_addBoard at hf
  refine r_aload_n (j := 0) rfl rfl dX8_addBoard_0 ?_
  obtain ⟨fs_x1, x1, ha_x1, hv_x1, hf⟩ := hf
  refine r_get (Cn := RX8) (Tt := TX8) (N := 9) (n := 3) rfl uw_X8 (Nat.le_of_ble_eq_true rfl) wd_2_62 ha_x1 hv_x1 dX8_addBoard_1 ?_
  obtain ⟨hbc, hbs, hf⟩ := hf
  refine r_new (t := 0) (Cn := RX0) (Tt := TX0) (N := 5) (fs := [aI 0, aJ 0, aI 0, aI 0, aI 0]) (ty0 := tyX0) rfl uw_X0 tyX0_ok wd_3_31 wd_3_50 wd_1_19 rfl dfv_X0 hbc hbs dX8_addBoard_4 (fun q2 hq_q2 => ?_)
  replace hf := hf q2 hq_q2
  generalize hset σ q2 (.inl (0, [aI 0, aJ 0, aI 0, aI 0, aI 0])) = σ3 at hf ⊢
  refine r_dup rfl dX8_addBoard_7 ?_
  refine r_aload_n (j := 0) rfl rfl dX8_addBoard_8 ?_
  obtain ⟨fs_x4, x4, ha_x4, hv_x4, hf⟩ := hf
  refine r_get (Cn := RX8) (Tt := TX8) (N := 9) (n := 3) rfl uw_X8 (Nat.le_of_ble_eq_true rfl) wd_2_62 ha_x4 hv_x4 dX8_addBoard_9 ?_
  try unfold C_Jx4a65c_size_8abf5 at hf
  obtain ⟨⟨fs_r6, ha_r6⟩, hf⟩ := hf
  refine r_invVI (t := 13) (As := []) (dz := d) (mz := 0) (sz := 0) rfl wd_3_13 wd_2_223 wd_2_224 cf_Jx4a65c_size_8abf5 (Nat.le_refl _) (Nat.zero_le _) (Nat.zero_le _) (cat_ok (Nat.le_of_ble_eq_true rfl)) rfl rfl ha_r6 dX8_addBoard_12 hf (fun r6 σ5 hk => ?_)
  replace hf := hk
  clear hk
  refine r_lload_n (j := 1) rfl rfl dX8_addBoard_15 ?_
  refine r_iload_n (j := 2) rfl rfl dX8_addBoard_16 ?_
  refine r_iload (j := 3) rfl dX8_addBoard_17 ?_
  refine r_aload_n (j := 0) rfl rfl dX8_addBoard_19 ?_
  obtain ⟨fs_x7, x7, ha_x7, hv_x7, hf⟩ := hf
  refine r_get (Cn := RX8) (Tt := TX8) (N := 9) (n := 5) rfl uw_X8 (Nat.le_of_ble_eq_true rfl) wd_2_70 ha_x7 hv_x7 dX8_addBoard_20 ?_
  try unfold C_X0_init at hf
  refine r_invIU (As := [aI r6, aJ v1, aI v3, aI v4, aI x7]) (dz := d) (mz := 0) (sz := 0) rfl wd_3_51 wd_3_52 rfl rfl cf_X0_init (Nat.le_refl _) (Nat.zero_le _) (Nat.zero_le _) (cat_ok (Nat.le_of_ble_eq_true rfl)) dX8_addBoard_23 hf (fun σ8 hk => ?_)
  replace hf := hk
  clear hk
  obtain ⟨mz12, sz13, hbc, hbs, hf⟩ := hf
  try unfold C_Jx4a65c_add_9ea2d at hf
  obtain ⟨⟨fs_r11, ha_r11⟩, hf⟩ := hf
  refine r_invVZ (t := 13) (As := [aR (some q2)]) (dz := d) (mz := mz12) (sz := sz13) rfl wd_3_81 wd_3_82 wd_3_83 cf_Jx4a65c_add_9ea2d (Nat.le_refl _) hbc hbs (cat_ok (Nat.le_of_ble_eq_true rfl)) rfl rfl ha_r11 dX8_addBoard_26 hf (fun r11 σ10 hk => ?_)
  replace hf := hk
  clear hk
  refine r_pop rfl dX8_addBoard_29 ?_
  refine r_aload_n (j := 0) rfl rfl dX8_addBoard_30 ?_
  refine r_dup rfl dX8_addBoard_31 ?_
  obtain ⟨fs_x14, x14, ha_x14, hv_x14, hf⟩ := hf
  refine r_get (Cn := RX8) (Tt := TX8) (N := 9) (n := 5) rfl uw_X8 (Nat.le_of_ble_eq_true rfl) wd_2_70 ha_x14 hv_x14 dX8_addBoard_32 ?_
  refine r_iload_n (j := 2) rfl rfl dX8_addBoard_35 ?_
  refine r_iload (j := 3) rfl dX8_addBoard_36 ?_
  refine r_imul (x := v3) (y := v4) dX8_addBoard_38 ?_
  refine r_iadd (x := x14) (y := (v3 * v4)) dX8_addBoard_39 ?_
  obtain ⟨fs_x16, ha_x16, hf⟩ := hf
  generalize hσ15 : hset σ10 v0 (.inl (8, fs_x16.set 5 (aI (x14 + (v3 * v4))))) = σ15 at hf
  refine r_put (Cn := RX8) (Tt := TX8) (N := 9) (n := 5) (v := aI (x14 + (v3 * v4))) rfl uw_X8 (Nat.le_of_ble_eq_true rfl) wd_2_70 ha_x16 (ty0 := tyX8) tyX8_ok nmX8 rfl (fo_I (x14 + (v3 * v4))) dX8_addBoard_40 ?_
  rw [hσ15]
  exact r_return rfl dX8_addBoard_43 rfl ⟨rfl, hf⟩
theorem m_X8_addBoard {l : Launch} {G : GG} {d : Nat} {mc ms : Nat} {v0 : Nat} {v1 : Int64} {v3 : Int32} {v4 : Int32} {σ : Hp} {K : Hp → Prop} (hr : rv σ v0 8) (hf : F_X8_addBoard l G d v0 v1 v3 v4 σ mc ms K) : C_X8_addBoard l G (d + 1) mc ms v0 v1 v3 v4 σ K := ⟨hr, Sp.of (by decide) (Nat.le_of_ble_eq_true rfl) (b_X8_addBoard_0 hf) rfl⟩
def F_X8_boardAt_30 (l : Launch) (G : GG) (d : Nat) (s0 : Option Nat) (σ : Hp) (K : Option Nat → Hp → Prop) : Prop :=
  K s0 σ
set_option maxRecDepth 100000 in
set_option maxHeartbeats 4000000 in
theorem b_X8_boardAt_30 {l : Launch} {G : GG} {d : Nat} {s0 : Option Nat} {σ : Hp} {K : Option Nat → Hp → Prop} (hf : F_X8_boardAt_30 l G d s0 σ K) : Wd l G (d + 1) "CoinsLaid$Table" yX8_boardAt cX8_boardAt 2 (some (FieldType.object "CoinsLaid$Board")) 30 [] [aR s0] σ 0 0 (xM (QR K)) := by
  unfold F_X8_boardAt_30 at hf
  exact r_areturn rfl (Or.inl ⟨_, rfl⟩) dX8_boardAt_30 rfl ⟨_, rfl, hf⟩
def F_X8_boardAt_29 (l : Launch) (G : GG) (d : Nat) (σ : Hp) (K : Option Nat → Hp → Prop) : Prop :=
  F_X8_boardAt_30 l G d none σ K
set_option maxRecDepth 100000 in
set_option maxHeartbeats 4000000 in
theorem b_X8_boardAt_29 {l : Launch} {G : GG} {d : Nat} {σ : Hp} {K : Option Nat → Hp → Prop} (hf : F_X8_boardAt_29 l G d  σ K) : Wd l G (d + 1) "CoinsLaid$Table" yX8_boardAt cX8_boardAt 2 (some (FieldType.object "CoinsLaid$Board")) 29 [] [] σ 0 0 (xM (QR K)) := by
  unfold F_X8_boardAt_29 at hf
  refine r_null dX8_boardAt_29 ?_
  exact r_sub [] rfl (b_X8_boardAt_30 hf)
def F_X8_boardAt (l : Launch) (G : GG) (d : Nat) (v0 : Nat) (v1 : Int32) (σ : Hp) (K : Option Nat → Hp → Prop) : Prop :=
  ((v1 : Int32) < 0 →
    F_X8_boardAt_29 l G d σ K) ∧
  (¬ (v1 : Int32) < 0 →
    fN σ v0 8 3 fun x1 =>
    C_Jx4a65c_size_8abf5 l G d x1 σ fun r3 σ2 =>
    ((r3 : Int32) ≤ (v1 : Int32) →
      F_X8_boardAt_29 l G d σ2 K) ∧
    (¬ (r3 : Int32) ≤ (v1 : Int32) →
      fN σ2 v0 8 3 fun x4 =>
      C_Jx4a65c_get_915e3 l G d x4 v1 σ2 fun r6 σ5 =>
      rv σ5 r6 0 ∧
      F_X8_boardAt_30 l G d (some r6) σ5 K))
set_option maxRecDepth 100000 in
set_option maxHeartbeats 4000000 in
theorem b_X8_boardAt_0 {l : Launch} {G : GG} {d : Nat} {v0 : Nat} {v1 : Int32} {σ : Hp} {K : Option Nat → Hp → Prop} (hf : F_X8_boardAt l G d v0 v1 σ K) : Wd l G (d + 1) "CoinsLaid$Table" yX8_boardAt cX8_boardAt 2 (some (FieldType.object "CoinsLaid$Board")) 0 [(0, aR (some v0)), (1, aI v1)] [] σ 0 0 (xM (QR K)) := by
  unfold F_X8_boardAt at hf
  refine r_iload_n (j := 1) rfl rfl dX8_boardAt_0 ?_
  refine r_iflt (x := v1) (tgt := 29) (by decide) dX8_boardAt_1 (fun hc => ?_) (fun hc => ?_)
  · replace hf := hf.1 hc
    exact r_sub [] rfl (b_X8_boardAt_29 hf)
  · replace hf := hf.2 hc
    refine r_iload_n (j := 1) rfl rfl dX8_boardAt_4 ?_
    refine r_aload_n (j := 0) rfl rfl dX8_boardAt_5 ?_
    obtain ⟨fs_x1, x1, ha_x1, hv_x1, hf⟩ := hf
    refine r_get (Cn := RX8) (Tt := TX8) (N := 9) (n := 3) rfl uw_X8 (Nat.le_of_ble_eq_true rfl) wd_2_62 ha_x1 hv_x1 dX8_boardAt_6 ?_
    try unfold C_Jx4a65c_size_8abf5 at hf
    obtain ⟨⟨fs_r3, ha_r3⟩, hf⟩ := hf
    refine r_invVI (t := 13) (As := []) (dz := d) (mz := 0) (sz := 0) rfl wd_3_13 wd_2_223 wd_2_224 cf_Jx4a65c_size_8abf5 (Nat.le_refl _) (Nat.zero_le _) (Nat.zero_le _) (cat_ok (Nat.le_of_ble_eq_true rfl)) rfl rfl ha_r3 dX8_boardAt_9 hf (fun r3 σ2 hk => ?_)
    replace hf := hk
    clear hk
    refine r_icmpge (x := v1) (y := r3) (tgt := 29) (by decide) dX8_boardAt_12 (fun hc => ?_) (fun hc => ?_)
    · replace hf := hf.1 hc
      exact r_sub [] rfl (b_X8_boardAt_29 hf)
    · replace hf := hf.2 hc
      refine r_aload_n (j := 0) rfl rfl dX8_boardAt_15 ?_
      obtain ⟨fs_x4, x4, ha_x4, hv_x4, hf⟩ := hf
      refine r_get (Cn := RX8) (Tt := TX8) (N := 9) (n := 3) rfl uw_X8 (Nat.le_of_ble_eq_true rfl) wd_2_62 ha_x4 hv_x4 dX8_boardAt_16 ?_
      refine r_iload_n (j := 1) rfl rfl dX8_boardAt_19 ?_
      try unfold C_Jx4a65c_get_915e3 at hf
      obtain ⟨⟨fs_r6, ha_r6⟩, hf⟩ := hf
      refine r_invVN (t := 13) (As := [aI v1]) (dz := d) (mz := 0) (sz := 0) rfl wd_3_14 wd_3_15 wd_3_16 cf_Jx4a65c_get_915e3 (Nat.le_refl _) (Nat.zero_le _) (Nat.zero_le _) (cat_ok (Nat.le_of_ble_eq_true rfl)) rfl rfl ha_r6 dX8_boardAt_20 hf (fun r6 σ5 hk => ?_)
      replace hf := hk
      clear hk
      obtain ⟨⟨fs_x7, ha_x7⟩, hf⟩ := hf
      refine r_cast (t := 0) rfl wd_3_31 ha_x7 dX8_boardAt_23 ?_
      refine r_goto (tgt := 30) (by decide) dX8_boardAt_26 ?_
      exact r_sub [] rfl (b_X8_boardAt_30 hf)
theorem m_X8_boardAt {l : Launch} {G : GG} {d : Nat} {v0 : Nat} {v1 : Int32} {σ : Hp} {K : Option Nat → Hp → Prop} (hr : rv σ v0 8) (hf : F_X8_boardAt l G d v0 v1 σ K) : C_X8_boardAt l G (d + 1) v0 v1 σ K := ⟨hr, Sp.of (by decide) (Nat.le_of_ble_eq_true rfl) (b_X8_boardAt_0 hf) rfl⟩
def F_X8_pieceAt_30 (l : Launch) (G : GG) (d : Nat) (s0 : Option Nat) (σ : Hp) (K : Option Nat → Hp → Prop) : Prop :=
  K s0 σ
set_option maxRecDepth 100000 in
set_option maxHeartbeats 4000000 in
theorem b_X8_pieceAt_30 {l : Launch} {G : GG} {d : Nat} {s0 : Option Nat} {σ : Hp} {K : Option Nat → Hp → Prop} (hf : F_X8_pieceAt_30 l G d s0 σ K) : Wd l G (d + 1) "CoinsLaid$Table" yX8_pieceAt cX8_pieceAt 2 (some (FieldType.object "CoinsLaid$Piece")) 30 [] [aR s0] σ 0 0 (xM (QR K)) := by
  unfold F_X8_pieceAt_30 at hf
  exact r_areturn rfl (Or.inl ⟨_, rfl⟩) dX8_pieceAt_30 rfl ⟨_, rfl, hf⟩
def F_X8_pieceAt_29 (l : Launch) (G : GG) (d : Nat) (σ : Hp) (K : Option Nat → Hp → Prop) : Prop :=
  F_X8_pieceAt_30 l G d none σ K
set_option maxRecDepth 100000 in
set_option maxHeartbeats 4000000 in
theorem b_X8_pieceAt_29 {l : Launch} {G : GG} {d : Nat} {σ : Hp} {K : Option Nat → Hp → Prop} (hf : F_X8_pieceAt_29 l G d  σ K) : Wd l G (d + 1) "CoinsLaid$Table" yX8_pieceAt cX8_pieceAt 2 (some (FieldType.object "CoinsLaid$Piece")) 29 [] [] σ 0 0 (xM (QR K)) := by
  unfold F_X8_pieceAt_29 at hf
  refine r_null dX8_pieceAt_29 ?_
  exact r_sub [] rfl (b_X8_pieceAt_30 hf)
def F_X8_pieceAt (l : Launch) (G : GG) (d : Nat) (v0 : Nat) (v1 : Int32) (σ : Hp) (K : Option Nat → Hp → Prop) : Prop :=
  ((v1 : Int32) < 0 →
    F_X8_pieceAt_29 l G d σ K) ∧
  (¬ (v1 : Int32) < 0 →
    fN σ v0 8 4 fun x1 =>
    C_Jx4a65c_size_8abf5 l G d x1 σ fun r3 σ2 =>
    ((r3 : Int32) ≤ (v1 : Int32) →
      F_X8_pieceAt_29 l G d σ2 K) ∧
    (¬ (r3 : Int32) ≤ (v1 : Int32) →
      fN σ2 v0 8 4 fun x4 =>
      C_Jx4a65c_get_915e3 l G d x4 v1 σ2 fun r6 σ5 =>
      rv σ5 r6 5 ∧
      F_X8_pieceAt_30 l G d (some r6) σ5 K))
set_option maxRecDepth 100000 in
set_option maxHeartbeats 4000000 in
theorem b_X8_pieceAt_0 {l : Launch} {G : GG} {d : Nat} {v0 : Nat} {v1 : Int32} {σ : Hp} {K : Option Nat → Hp → Prop} (hf : F_X8_pieceAt l G d v0 v1 σ K) : Wd l G (d + 1) "CoinsLaid$Table" yX8_pieceAt cX8_pieceAt 2 (some (FieldType.object "CoinsLaid$Piece")) 0 [(0, aR (some v0)), (1, aI v1)] [] σ 0 0 (xM (QR K)) := by
  unfold F_X8_pieceAt at hf
  refine r_iload_n (j := 1) rfl rfl dX8_pieceAt_0 ?_
  refine r_iflt (x := v1) (tgt := 29) (by decide) dX8_pieceAt_1 (fun hc => ?_) (fun hc => ?_)
  · replace hf := hf.1 hc
    exact r_sub [] rfl (b_X8_pieceAt_29 hf)
  · replace hf := hf.2 hc
    refine r_iload_n (j := 1) rfl rfl dX8_pieceAt_4 ?_
    refine r_aload_n (j := 0) rfl rfl dX8_pieceAt_5 ?_
    obtain ⟨fs_x1, x1, ha_x1, hv_x1, hf⟩ := hf
    refine r_get (Cn := RX8) (Tt := TX8) (N := 9) (n := 4) rfl uw_X8 (Nat.le_of_ble_eq_true rfl) wd_2_66 ha_x1 hv_x1 dX8_pieceAt_6 ?_
    try unfold C_Jx4a65c_size_8abf5 at hf
    obtain ⟨⟨fs_r3, ha_r3⟩, hf⟩ := hf
    refine r_invVI (t := 13) (As := []) (dz := d) (mz := 0) (sz := 0) rfl wd_3_13 wd_2_223 wd_2_224 cf_Jx4a65c_size_8abf5 (Nat.le_refl _) (Nat.zero_le _) (Nat.zero_le _) (cat_ok (Nat.le_of_ble_eq_true rfl)) rfl rfl ha_r3 dX8_pieceAt_9 hf (fun r3 σ2 hk => ?_)
    replace hf := hk
    clear hk
    refine r_icmpge (x := v1) (y := r3) (tgt := 29) (by decide) dX8_pieceAt_12 (fun hc => ?_) (fun hc => ?_)
    · replace hf := hf.1 hc
      exact r_sub [] rfl (b_X8_pieceAt_29 hf)
    · replace hf := hf.2 hc
      refine r_aload_n (j := 0) rfl rfl dX8_pieceAt_15 ?_
      obtain ⟨fs_x4, x4, ha_x4, hv_x4, hf⟩ := hf
      refine r_get (Cn := RX8) (Tt := TX8) (N := 9) (n := 4) rfl uw_X8 (Nat.le_of_ble_eq_true rfl) wd_2_66 ha_x4 hv_x4 dX8_pieceAt_16 ?_
      refine r_iload_n (j := 1) rfl rfl dX8_pieceAt_19 ?_
      try unfold C_Jx4a65c_get_915e3 at hf
      obtain ⟨⟨fs_r6, ha_r6⟩, hf⟩ := hf
      refine r_invVN (t := 13) (As := [aI v1]) (dz := d) (mz := 0) (sz := 0) rfl wd_3_14 wd_3_15 wd_3_16 cf_Jx4a65c_get_915e3 (Nat.le_refl _) (Nat.zero_le _) (Nat.zero_le _) (cat_ok (Nat.le_of_ble_eq_true rfl)) rfl rfl ha_r6 dX8_pieceAt_20 hf (fun r6 σ5 hk => ?_)
      replace hf := hk
      clear hk
      obtain ⟨⟨fs_x7, ha_x7⟩, hf⟩ := hf
      refine r_cast (t := 5) rfl wd_3_26 ha_x7 dX8_pieceAt_23 ?_
      refine r_goto (tgt := 30) (by decide) dX8_pieceAt_26 ?_
      exact r_sub [] rfl (b_X8_pieceAt_30 hf)
theorem m_X8_pieceAt {l : Launch} {G : GG} {d : Nat} {v0 : Nat} {v1 : Int32} {σ : Hp} {K : Option Nat → Hp → Prop} (hr : rv σ v0 8) (hf : F_X8_pieceAt l G d v0 v1 σ K) : C_X8_pieceAt l G (d + 1) v0 v1 σ K := ⟨hr, Sp.of (by decide) (Nat.le_of_ble_eq_true rfl) (b_X8_pieceAt_0 hf) rfl⟩
def F_X8_boardNamed_2 (l : Launch) (G : GG) (d : Nat) (X2 : Nat → Int64 → Int32 → Hp → Prop) (v0 : Nat) (v1 : Int64) (v3 : Int32) (σ : Hp) (K : Option Nat → Hp → Prop) : Prop :=
  fN σ v0 8 3 fun x1 =>
  C_Jx4a65c_size_8abf5 l G d x1 σ fun r3 σ2 =>
  ((r3 : Int32) ≤ (v3 : Int32) →
    K none σ2) ∧
  (¬ (r3 : Int32) ≤ (v3 : Int32) →
    fN σ2 v0 8 3 fun x4 =>
    C_Jx4a65c_get_915e3 l G d x4 v3 σ2 fun r6 σ5 =>
    rv σ5 r6 0 ∧
    fJ σ5 r6 0 1 fun x8 =>
    (¬ ((lg_cmp x8 v1) : Int32) = 0 →
      X2 v0 v1 (v3 + 1) σ5) ∧
    (((lg_cmp x8 v1) : Int32) = 0 →
      fN σ5 v0 8 3 fun x9 =>
      C_Jx4a65c_get_915e3 l G d x9 v3 σ5 fun r11 σ10 =>
      rv σ10 r11 0 ∧
      K (some r11) σ10))
set_option maxRecDepth 100000 in
set_option maxHeartbeats 4000000 in
theorem b_X8_boardNamed_2 {l : Launch} {G : GG} {d : Nat} {X2 : Nat → Int64 → Int32 → Hp → Prop} {v0 : Nat} {v1 : Int64} {v3 : Int32} {σ : Hp} {K : Option Nat → Hp → Prop} (hX2 : ∀ v0 v1 v3 σ, X2 v0 v1 v3 σ → Wd l G (d + 1) "CoinsLaid$Table" yX8_boardNamed cX8_boardNamed 4 (some (FieldType.object "CoinsLaid$Board")) 2 [(0, aR (some v0)), (1, aJ v1), (3, aI v3)] [] σ 0 0 (xM (QR K))) (hf : F_X8_boardNamed_2 l G d X2 v0 v1 v3 σ K) : Wd l G (d + 1) "CoinsLaid$Table" yX8_boardNamed cX8_boardNamed 4 (some (FieldType.object "CoinsLaid$Board")) 2 [(0, aR (some v0)), (1, aJ v1), (3, aI v3)] [] σ 0 0 (xM (QR K)) := by
  unfold F_X8_boardNamed_2 at hf
  refine r_iload_n (j := 2) rfl rfl dX8_boardNamed_2 ?_
  refine r_aload_n (j := 0) rfl rfl dX8_boardNamed_3 ?_
  obtain ⟨fs_x1, x1, ha_x1, hv_x1, hf⟩ := hf
  refine r_get (Cn := RX8) (Tt := TX8) (N := 9) (n := 3) rfl uw_X8 (Nat.le_of_ble_eq_true rfl) wd_2_62 ha_x1 hv_x1 dX8_boardNamed_4 ?_
  try unfold C_Jx4a65c_size_8abf5 at hf
  obtain ⟨⟨fs_r3, ha_r3⟩, hf⟩ := hf
  refine r_invVI (t := 13) (As := []) (dz := d) (mz := 0) (sz := 0) rfl wd_3_13 wd_2_223 wd_2_224 cf_Jx4a65c_size_8abf5 (Nat.le_refl _) (Nat.zero_le _) (Nat.zero_le _) (cat_ok (Nat.le_of_ble_eq_true rfl)) rfl rfl ha_r3 dX8_boardNamed_7 hf (fun r3 σ2 hk => ?_)
  replace hf := hk
  clear hk
  refine r_icmpge (x := v3) (y := r3) (tgt := 50) (by decide) dX8_boardNamed_10 (fun hc => ?_) (fun hc => ?_)
  · replace hf := hf.1 hc
    refine r_null dX8_boardNamed_50 ?_
    exact r_areturn rfl (Or.inl ⟨_, rfl⟩) dX8_boardNamed_51 rfl ⟨_, rfl, hf⟩
  · replace hf := hf.2 hc
    refine r_aload_n (j := 0) rfl rfl dX8_boardNamed_13 ?_
    obtain ⟨fs_x4, x4, ha_x4, hv_x4, hf⟩ := hf
    refine r_get (Cn := RX8) (Tt := TX8) (N := 9) (n := 3) rfl uw_X8 (Nat.le_of_ble_eq_true rfl) wd_2_62 ha_x4 hv_x4 dX8_boardNamed_14 ?_
    refine r_iload_n (j := 2) rfl rfl dX8_boardNamed_17 ?_
    try unfold C_Jx4a65c_get_915e3 at hf
    obtain ⟨⟨fs_r6, ha_r6⟩, hf⟩ := hf
    refine r_invVN (t := 13) (As := [aI v3]) (dz := d) (mz := 0) (sz := 0) rfl wd_3_14 wd_3_15 wd_3_16 cf_Jx4a65c_get_915e3 (Nat.le_refl _) (Nat.zero_le _) (Nat.zero_le _) (cat_ok (Nat.le_of_ble_eq_true rfl)) rfl rfl ha_r6 dX8_boardNamed_18 hf (fun r6 σ5 hk => ?_)
    replace hf := hk
    clear hk
    obtain ⟨⟨fs_x7, ha_x7⟩, hf⟩ := hf
    refine r_cast (t := 0) rfl wd_3_31 ha_x7 dX8_boardNamed_21 ?_
    obtain ⟨fs_x8, x8, ha_x8, hv_x8, hf⟩ := hf
    refine r_get (Cn := RX0) (Tt := TX0) (N := 5) (n := 1) rfl uw_X0 (Nat.le_of_ble_eq_true rfl) wd_3_59 ha_x8 hv_x8 dX8_boardNamed_24 ?_
    refine r_lload_n (j := 1) rfl rfl dX8_boardNamed_27 ?_
    refine r_lcmp (x := x8) (y := v1) dX8_boardNamed_28 ?_
    refine r_ifne (x := (lg_cmp x8 v1)) (tgt := 44) (by decide) dX8_boardNamed_29 (fun hc => ?_) (fun hc => ?_)
    · replace hf := hf.1 hc
      refine r_iinc (j := 2) (w := (v3 + 1)) (L' := [(3, aI (v3 + 1)), (0, aR (some v0)), (1, aJ v1)]) rfl (by rfl) rfl (Nat.le_of_ble_eq_true rfl) dX8_boardNamed_44 ?_
      refine r_goto (tgt := 2) (by decide) dX8_boardNamed_47 ?_
      exact r_sub [1, 2, 0] rfl (hX2 _ _ _ _ hf)
    · replace hf := hf.2 hc
      refine r_aload_n (j := 0) rfl rfl dX8_boardNamed_32 ?_
      obtain ⟨fs_x9, x9, ha_x9, hv_x9, hf⟩ := hf
      refine r_get (Cn := RX8) (Tt := TX8) (N := 9) (n := 3) rfl uw_X8 (Nat.le_of_ble_eq_true rfl) wd_2_62 ha_x9 hv_x9 dX8_boardNamed_33 ?_
      refine r_iload_n (j := 2) rfl rfl dX8_boardNamed_36 ?_
      try unfold C_Jx4a65c_get_915e3 at hf
      obtain ⟨⟨fs_r11, ha_r11⟩, hf⟩ := hf
      refine r_invVN (t := 13) (As := [aI v3]) (dz := d) (mz := 0) (sz := 0) rfl wd_3_14 wd_3_15 wd_3_16 cf_Jx4a65c_get_915e3 (Nat.le_refl _) (Nat.zero_le _) (Nat.zero_le _) (cat_ok (Nat.le_of_ble_eq_true rfl)) rfl rfl ha_r11 dX8_boardNamed_37 hf (fun r11 σ10 hk => ?_)
      replace hf := hk
      clear hk
      obtain ⟨⟨fs_x12, ha_x12⟩, hf⟩ := hf
      refine r_cast (t := 0) rfl wd_3_31 ha_x12 dX8_boardNamed_40 ?_
      exact r_areturn rfl (Or.inl ⟨_, rfl⟩) dX8_boardNamed_43 rfl ⟨_, rfl, hf⟩
def Z_X8_boardNamed_2 (l : Launch) (G : GG) (d : Nat) (K : Option Nat → Hp → Prop) : Nat → Nat → Int64 → Int32 → Hp → Prop
  | 0 => fun _ _ _ _ => False
  | n + 1 => fun v0 v1 v3 σ => F_X8_boardNamed_2 l G d (Z_X8_boardNamed_2 l G d K n) v0 v1 v3 σ K
theorem z_X8_boardNamed_2 {l : Launch} {G : GG} {d : Nat} {K : Option Nat → Hp → Prop} : ∀ (n : Nat) v0 v1 v3 σ, Z_X8_boardNamed_2 l G d K n v0 v1 v3 σ → Wd l G (d + 1) "CoinsLaid$Table" yX8_boardNamed cX8_boardNamed 4 (some (FieldType.object "CoinsLaid$Board")) 2 [(0, aR (some v0)), (1, aJ v1), (3, aI v3)] [] σ 0 0 (xM (QR K)) := by
  intro n
  induction n with
  | zero => intro v0 v1 v3 σ hf; exact hf.elim
  | succ n ih => intro v0 v1 v3 σ hf; exact b_X8_boardNamed_2 ih hf
def F_X8_boardNamed (l : Launch) (G : GG) (d : Nat) (v0 : Nat) (v1 : Int64) (σ : Hp) (K : Option Nat → Hp → Prop) : Prop :=
  ∃ n, Z_X8_boardNamed_2 l G d K n v0 v1 0 σ
set_option maxRecDepth 100000 in
set_option maxHeartbeats 4000000 in
theorem b_X8_boardNamed_0 {l : Launch} {G : GG} {d : Nat} {v0 : Nat} {v1 : Int64} {σ : Hp} {K : Option Nat → Hp → Prop} (hf : F_X8_boardNamed l G d v0 v1 σ K) : Wd l G (d + 1) "CoinsLaid$Table" yX8_boardNamed cX8_boardNamed 4 (some (FieldType.object "CoinsLaid$Board")) 0 [(0, aR (some v0)), (1, aJ v1)] [] σ 0 0 (xM (QR K)) := by
  unfold F_X8_boardNamed at hf
  refine r_iconst (v := 0) (by decide) dX8_boardNamed_0 ?_
  refine r_istore_n (L' := [(3, aI 0), (0, aR (some v0)), (1, aJ v1)]) rfl rfl (Nat.le_of_ble_eq_true rfl) dX8_boardNamed_1 ?_
  obtain ⟨n, hf⟩ := hf
  exact r_sub [1, 2, 0] rfl (z_X8_boardNamed_2 n _ _ _ _ hf)
theorem m_X8_boardNamed {l : Launch} {G : GG} {d : Nat} {v0 : Nat} {v1 : Int64} {σ : Hp} {K : Option Nat → Hp → Prop} (hr : rv σ v0 8) (hf : F_X8_boardNamed l G d v0 v1 σ K) : C_X8_boardNamed l G (d + 1) v0 v1 σ K := ⟨hr, Sp.of (by decide) (Nat.le_of_ble_eq_true rfl) (b_X8_boardNamed_0 hf) rfl⟩
def F_X8_isNameTold_53 (l : Launch) (G : GG) (d : Nat) (s0 : Bool) (σ : Hp) (K : Bool → Hp → Prop) : Prop :=
  K s0 σ
set_option maxRecDepth 100000 in
set_option maxHeartbeats 4000000 in
theorem b_X8_isNameTold_53 {l : Launch} {G : GG} {d : Nat} {s0 : Bool} {σ : Hp} {K : Bool → Hp → Prop} (hf : F_X8_isNameTold_53 l G d s0 σ K) : Wd l G (d + 1) "CoinsLaid$Table" yX8_isNameTold cX8_isNameTold 4 (some FieldType.boolean) 53 [] [aI (bi s0)] σ 0 0 (xM (QZ K)) := by
  unfold F_X8_isNameTold_53 at hf
  exact r_zreturn (b := s0) rfl dX8_isNameTold_53 rfl ⟨_, rfl, hf⟩
def F_X8_isNameTold_2 (l : Launch) (G : GG) (d : Nat) (X2 : Nat → Int64 → Int32 → Hp → Prop) (v0 : Nat) (v1 : Int64) (v3 : Int32) (σ : Hp) (K : Bool → Hp → Prop) : Prop :=
  fN σ v0 8 4 fun x1 =>
  C_Jx4a65c_size_8abf5 l G d x1 σ fun r3 σ2 =>
  ((r3 : Int32) ≤ (v3 : Int32) →
    C_X8_boardNamed l G d v0 v1 σ2 fun r5 σ4 =>
    (r5 = none →
      F_X8_isNameTold_53 l G d false σ4 K) ∧
    (∀ b6, r5 = some b6 →
      F_X8_isNameTold_53 l G d true σ4 K)) ∧
  (¬ (r3 : Int32) ≤ (v3 : Int32) →
    fN σ2 v0 8 4 fun x7 =>
    C_Jx4a65c_get_915e3 l G d x7 v3 σ2 fun r9 σ8 =>
    rv σ8 r9 5 ∧
    fJ σ8 r9 5 1 fun x11 =>
    (¬ ((lg_cmp x11 v1) : Int32) = 0 →
      X2 v0 v1 (v3 + 1) σ8) ∧
    (((lg_cmp x11 v1) : Int32) = 0 →
      K true σ8))
set_option maxRecDepth 100000 in
set_option maxHeartbeats 4000000 in
theorem b_X8_isNameTold_2 {l : Launch} {G : GG} {d : Nat} {X2 : Nat → Int64 → Int32 → Hp → Prop} {v0 : Nat} {v1 : Int64} {v3 : Int32} {σ : Hp} {K : Bool → Hp → Prop} (hX2 : ∀ v0 v1 v3 σ, X2 v0 v1 v3 σ → Wd l G (d + 1) "CoinsLaid$Table" yX8_isNameTold cX8_isNameTold 4 (some FieldType.boolean) 2 [(0, aR (some v0)), (1, aJ v1), (3, aI v3)] [] σ 0 0 (xM (QZ K))) (hf : F_X8_isNameTold_2 l G d X2 v0 v1 v3 σ K) : Wd l G (d + 1) "CoinsLaid$Table" yX8_isNameTold cX8_isNameTold 4 (some FieldType.boolean) 2 [(0, aR (some v0)), (1, aJ v1), (3, aI v3)] [] σ 0 0 (xM (QZ K)) := by
  unfold F_X8_isNameTold_2 at hf
  refine r_iload_n (j := 2) rfl rfl dX8_isNameTold_2 ?_
  refine r_aload_n (j := 0) rfl rfl dX8_isNameTold_3 ?_
  obtain ⟨fs_x1, x1, ha_x1, hv_x1, hf⟩ := hf
  refine r_get (Cn := RX8) (Tt := TX8) (N := 9) (n := 4) rfl uw_X8 (Nat.le_of_ble_eq_true rfl) wd_2_66 ha_x1 hv_x1 dX8_isNameTold_4 ?_
  try unfold C_Jx4a65c_size_8abf5 at hf
  obtain ⟨⟨fs_r3, ha_r3⟩, hf⟩ := hf
  refine r_invVI (t := 13) (As := []) (dz := d) (mz := 0) (sz := 0) rfl wd_3_13 wd_2_223 wd_2_224 cf_Jx4a65c_size_8abf5 (Nat.le_refl _) (Nat.zero_le _) (Nat.zero_le _) (cat_ok (Nat.le_of_ble_eq_true rfl)) rfl rfl ha_r3 dX8_isNameTold_7 hf (fun r3 σ2 hk => ?_)
  replace hf := hk
  clear hk
  refine r_icmpge (x := v3) (y := r3) (tgt := 40) (by decide) dX8_isNameTold_10 (fun hc => ?_) (fun hc => ?_)
  · replace hf := hf.1 hc
    refine r_aload_n (j := 0) rfl rfl dX8_isNameTold_40 ?_
    refine r_lload_n (j := 1) rfl rfl dX8_isNameTold_41 ?_
    try unfold C_X8_boardNamed at hf
    obtain ⟨⟨fs_r5, ha_r5⟩, hf⟩ := hf
    refine r_invVR (t := 8) (As := [aJ v1]) (dz := d) (mz := 0) (sz := 0) rfl wd_3_27 wd_3_28 wd_3_29 cf_X8_boardNamed (Nat.le_refl _) (Nat.zero_le _) (Nat.zero_le _) (cat_ok (Nat.le_of_ble_eq_true rfl)) rfl rfl ha_r5 dX8_isNameTold_42 hf (fun r5 σ4 hk => ?_)
    replace hf := hk
    clear hk
    refine r_ifnull (o := r5) (tgt := 52) (by decide) dX8_isNameTold_45 (fun hc => ?_) (fun b6 hc => ?_)
    · replace hf := hf.1 hc
      subst hc
      refine r_iconst (v := 0) (by decide) dX8_isNameTold_52 ?_
      exact r_sub [] rfl (b_X8_isNameTold_53 hf)
    · replace hf := hf.2 b6 hc
      subst hc
      refine r_iconst (v := 1) (by decide) dX8_isNameTold_48 ?_
      refine r_goto (tgt := 53) (by decide) dX8_isNameTold_49 ?_
      exact r_sub [] rfl (b_X8_isNameTold_53 hf)
  · replace hf := hf.2 hc
    refine r_aload_n (j := 0) rfl rfl dX8_isNameTold_13 ?_
    obtain ⟨fs_x7, x7, ha_x7, hv_x7, hf⟩ := hf
    refine r_get (Cn := RX8) (Tt := TX8) (N := 9) (n := 4) rfl uw_X8 (Nat.le_of_ble_eq_true rfl) wd_2_66 ha_x7 hv_x7 dX8_isNameTold_14 ?_
    refine r_iload_n (j := 2) rfl rfl dX8_isNameTold_17 ?_
    try unfold C_Jx4a65c_get_915e3 at hf
    obtain ⟨⟨fs_r9, ha_r9⟩, hf⟩ := hf
    refine r_invVN (t := 13) (As := [aI v3]) (dz := d) (mz := 0) (sz := 0) rfl wd_3_14 wd_3_15 wd_3_16 cf_Jx4a65c_get_915e3 (Nat.le_refl _) (Nat.zero_le _) (Nat.zero_le _) (cat_ok (Nat.le_of_ble_eq_true rfl)) rfl rfl ha_r9 dX8_isNameTold_18 hf (fun r9 σ8 hk => ?_)
    replace hf := hk
    clear hk
    obtain ⟨⟨fs_x10, ha_x10⟩, hf⟩ := hf
    refine r_cast (t := 5) rfl wd_3_26 ha_x10 dX8_isNameTold_21 ?_
    obtain ⟨fs_x11, x11, ha_x11, hv_x11, hf⟩ := hf
    refine r_get (Cn := RX5) (Tt := TX5) (N := 7) (n := 1) rfl uw_X5 (Nat.le_of_ble_eq_true rfl) wd_3_187 ha_x11 hv_x11 dX8_isNameTold_24 ?_
    refine r_lload_n (j := 1) rfl rfl dX8_isNameTold_27 ?_
    refine r_lcmp (x := x11) (y := v1) dX8_isNameTold_28 ?_
    refine r_ifne (x := (lg_cmp x11 v1)) (tgt := 34) (by decide) dX8_isNameTold_29 (fun hc => ?_) (fun hc => ?_)
    · replace hf := hf.1 hc
      refine r_iinc (j := 2) (w := (v3 + 1)) (L' := [(3, aI (v3 + 1)), (0, aR (some v0)), (1, aJ v1)]) rfl (by rfl) rfl (Nat.le_of_ble_eq_true rfl) dX8_isNameTold_34 ?_
      refine r_goto (tgt := 2) (by decide) dX8_isNameTold_37 ?_
      exact r_sub [1, 2, 0] rfl (hX2 _ _ _ _ hf)
    · replace hf := hf.2 hc
      refine r_iconst (v := 1) (by decide) dX8_isNameTold_32 ?_
      exact r_zreturn (b := true) rfl dX8_isNameTold_33 rfl ⟨_, rfl, hf⟩
def Z_X8_isNameTold_2 (l : Launch) (G : GG) (d : Nat) (K : Bool → Hp → Prop) : Nat → Nat → Int64 → Int32 → Hp → Prop
  | 0 => fun _ _ _ _ => False
  | n + 1 => fun v0 v1 v3 σ => F_X8_isNameTold_2 l G d (Z_X8_isNameTold_2 l G d K n) v0 v1 v3 σ K
theorem z_X8_isNameTold_2 {l : Launch} {G : GG} {d : Nat} {K : Bool → Hp → Prop} : ∀ (n : Nat) v0 v1 v3 σ, Z_X8_isNameTold_2 l G d K n v0 v1 v3 σ → Wd l G (d + 1) "CoinsLaid$Table" yX8_isNameTold cX8_isNameTold 4 (some FieldType.boolean) 2 [(0, aR (some v0)), (1, aJ v1), (3, aI v3)] [] σ 0 0 (xM (QZ K)) := by
  intro n
  induction n with
  | zero => intro v0 v1 v3 σ hf; exact hf.elim
  | succ n ih => intro v0 v1 v3 σ hf; exact b_X8_isNameTold_2 ih hf
def F_X8_isNameTold (l : Launch) (G : GG) (d : Nat) (v0 : Nat) (v1 : Int64) (σ : Hp) (K : Bool → Hp → Prop) : Prop :=
  ∃ n, Z_X8_isNameTold_2 l G d K n v0 v1 0 σ
set_option maxRecDepth 100000 in
set_option maxHeartbeats 4000000 in
theorem b_X8_isNameTold_0 {l : Launch} {G : GG} {d : Nat} {v0 : Nat} {v1 : Int64} {σ : Hp} {K : Bool → Hp → Prop} (hf : F_X8_isNameTold l G d v0 v1 σ K) : Wd l G (d + 1) "CoinsLaid$Table" yX8_isNameTold cX8_isNameTold 4 (some FieldType.boolean) 0 [(0, aR (some v0)), (1, aJ v1)] [] σ 0 0 (xM (QZ K)) := by
  unfold F_X8_isNameTold at hf
  refine r_iconst (v := 0) (by decide) dX8_isNameTold_0 ?_
  refine r_istore_n (L' := [(3, aI 0), (0, aR (some v0)), (1, aJ v1)]) rfl rfl (Nat.le_of_ble_eq_true rfl) dX8_isNameTold_1 ?_
  obtain ⟨n, hf⟩ := hf
  exact r_sub [1, 2, 0] rfl (z_X8_isNameTold_2 n _ _ _ _ hf)
theorem m_X8_isNameTold {l : Launch} {G : GG} {d : Nat} {v0 : Nat} {v1 : Int64} {σ : Hp} {K : Bool → Hp → Prop} (hr : rv σ v0 8) (hf : F_X8_isNameTold l G d v0 v1 σ K) : C_X8_isNameTold l G (d + 1) v0 v1 σ K := ⟨hr, Sp.of (by decide) (Nat.le_of_ble_eq_true rfl) (b_X8_isNameTold_0 hf) rfl⟩
def F_X8_makeLays_36 (l : Launch) (G : GG) (d : Nat) (X23 : Nat → Nat → Int32 → Hp → Nat → Nat → Prop) (X36 : Nat → Nat → Int32 → Int32 → Hp → Nat → Nat → Prop) (v0 : Nat) (v1 : Nat) (v2 : Int32) (v3 : Int32) (σ : Hp) (bc bs : Nat) (K : Hp → Prop) : Prop :=
  fN σ v0 8 3 fun x1 =>
  C_Jx4a65c_size_8abf5 l G d x1 σ fun r3 σ2 =>
  ((r3 : Int32) ≤ (v3 : Int32) →
    X23 v0 v1 (v2 + 1) σ2 bc bs) ∧
  (¬ (r3 : Int32) ≤ (v3 : Int32) →
    fN σ2 v0 8 4 fun x4 =>
    C_Jx4a65c_get_915e3 l G d x4 v2 σ2 fun r6 σ5 =>
    rv σ5 r6 5 ∧
    fN σ5 v0 8 3 fun x8 =>
    C_Jx4a65c_get_915e3 l G d x8 v3 σ5 fun r10 σ9 =>
    rv σ9 r10 0 ∧
    ∃ mz14 sz15, mz14 ≤ bc ∧ sz15 ≤ bs ∧ C_X8_addLays l G d mz14 sz15 v0 v1 r6 r10 σ9 fun σ12 =>
    X36 v0 v1 v2 (v3 + 1) σ12 (bc - mz14) (bs - sz15))
set_option maxRecDepth 100000 in
set_option maxHeartbeats 4000000 in
theorem b_X8_makeLays_36 {l : Launch} {G : GG} {d : Nat} {X23 : Nat → Nat → Int32 → Hp → Nat → Nat → Prop} {X36 : Nat → Nat → Int32 → Int32 → Hp → Nat → Nat → Prop} {v0 : Nat} {v1 : Nat} {v2 : Int32} {v3 : Int32} {σ : Hp} {bc bs : Nat} {K : Hp → Prop} (hX23 : ∀ v0 v1 v2 σ bc bs, X23 v0 v1 v2 σ bc bs → Wd l G (d + 1) "CoinsLaid$Table" yX8_makeLays cX8_makeLays 6 none 23 [(0, aR (some v0)), (1, aR (some v1)), (2, aI v2)] [] σ bc bs (xM (QV K))) (hX36 : ∀ v0 v1 v2 v3 σ bc bs, X36 v0 v1 v2 v3 σ bc bs → Wd l G (d + 1) "CoinsLaid$Table" yX8_makeLays cX8_makeLays 6 none 36 [(0, aR (some v0)), (1, aR (some v1)), (2, aI v2), (3, aI v3)] [] σ bc bs (xM (QV K))) (hf : F_X8_makeLays_36 l G d X23 X36 v0 v1 v2 v3 σ bc bs K) : Wd l G (d + 1) "CoinsLaid$Table" yX8_makeLays cX8_makeLays 6 none 36 [(0, aR (some v0)), (1, aR (some v1)), (2, aI v2), (3, aI v3)] [] σ bc bs (xM (QV K)) := by
  unfold F_X8_makeLays_36 at hf
  refine r_iload_n (j := 3) rfl rfl dX8_makeLays_36 ?_
  refine r_aload_n (j := 0) rfl rfl dX8_makeLays_37 ?_
  obtain ⟨fs_x1, x1, ha_x1, hv_x1, hf⟩ := hf
  refine r_get (Cn := RX8) (Tt := TX8) (N := 9) (n := 3) rfl uw_X8 (Nat.le_of_ble_eq_true rfl) wd_2_62 ha_x1 hv_x1 dX8_makeLays_38 ?_
  try unfold C_Jx4a65c_size_8abf5 at hf
  obtain ⟨⟨fs_r3, ha_r3⟩, hf⟩ := hf
  refine r_invVI (t := 13) (As := []) (dz := d) (mz := 0) (sz := 0) rfl wd_3_13 wd_2_223 wd_2_224 cf_Jx4a65c_size_8abf5 (Nat.le_refl _) (Nat.zero_le _) (Nat.zero_le _) (cat_ok (Nat.le_of_ble_eq_true rfl)) rfl rfl ha_r3 dX8_makeLays_41 hf (fun r3 σ2 hk => ?_)
  replace hf := hk
  clear hk
  refine r_icmpge (x := v3) (y := r3) (tgt := 80) (by decide) dX8_makeLays_44 (fun hc => ?_) (fun hc => ?_)
  · replace hf := hf.1 hc
    refine r_iinc (j := 2) (w := (v2 + 1)) (L' := [(2, aI (v2 + 1)), (0, aR (some v0)), (1, aR (some v1)), (3, aI v3)]) rfl (by rfl) rfl (Nat.le_of_ble_eq_true rfl) dX8_makeLays_80 ?_
    refine r_goto (tgt := 23) (by decide) dX8_makeLays_83 ?_
    exact r_sub [1, 2, 0] rfl (hX23 _ _ _ _ _ _ hf)
  · replace hf := hf.2 hc
    refine r_aload_n (j := 0) rfl rfl dX8_makeLays_47 ?_
    refine r_aload_n (j := 1) rfl rfl dX8_makeLays_48 ?_
    refine r_aload_n (j := 0) rfl rfl dX8_makeLays_49 ?_
    obtain ⟨fs_x4, x4, ha_x4, hv_x4, hf⟩ := hf
    refine r_get (Cn := RX8) (Tt := TX8) (N := 9) (n := 4) rfl uw_X8 (Nat.le_of_ble_eq_true rfl) wd_2_66 ha_x4 hv_x4 dX8_makeLays_50 ?_
    refine r_iload_n (j := 2) rfl rfl dX8_makeLays_53 ?_
    try unfold C_Jx4a65c_get_915e3 at hf
    obtain ⟨⟨fs_r6, ha_r6⟩, hf⟩ := hf
    refine r_invVN (t := 13) (As := [aI v2]) (dz := d) (mz := 0) (sz := 0) rfl wd_3_14 wd_3_15 wd_3_16 cf_Jx4a65c_get_915e3 (Nat.le_refl _) (Nat.zero_le _) (Nat.zero_le _) (cat_ok (Nat.le_of_ble_eq_true rfl)) rfl rfl ha_r6 dX8_makeLays_54 hf (fun r6 σ5 hk => ?_)
    replace hf := hk
    clear hk
    obtain ⟨⟨fs_x7, ha_x7⟩, hf⟩ := hf
    refine r_cast (t := 5) rfl wd_3_26 ha_x7 dX8_makeLays_57 ?_
    refine r_aload_n (j := 0) rfl rfl dX8_makeLays_60 ?_
    obtain ⟨fs_x8, x8, ha_x8, hv_x8, hf⟩ := hf
    refine r_get (Cn := RX8) (Tt := TX8) (N := 9) (n := 3) rfl uw_X8 (Nat.le_of_ble_eq_true rfl) wd_2_62 ha_x8 hv_x8 dX8_makeLays_61 ?_
    refine r_iload_n (j := 3) rfl rfl dX8_makeLays_64 ?_
    try unfold C_Jx4a65c_get_915e3 at hf
    obtain ⟨⟨fs_r10, ha_r10⟩, hf⟩ := hf
    refine r_invVN (t := 13) (As := [aI v3]) (dz := d) (mz := 0) (sz := 0) rfl wd_3_14 wd_3_15 wd_3_16 cf_Jx4a65c_get_915e3 (Nat.le_refl _) (Nat.zero_le _) (Nat.zero_le _) (cat_ok (Nat.le_of_ble_eq_true rfl)) rfl rfl ha_r10 dX8_makeLays_65 hf (fun r10 σ9 hk => ?_)
    replace hf := hk
    clear hk
    obtain ⟨⟨fs_x11, ha_x11⟩, hf⟩ := hf
    refine r_cast (t := 0) rfl wd_3_31 ha_x11 dX8_makeLays_68 ?_
    obtain ⟨mz14, sz15, hbc, hbs, hf⟩ := hf
    try unfold C_X8_addLays at hf
    obtain ⟨⟨fs_r13, ha_r13⟩, hf⟩ := hf
    refine r_invVU (t := 8) (As := [aR (some v1), aR (some r6), aR (some r10)]) (dz := d) (mz := mz14) (sz := sz15) rfl wd_3_229 wd_3_231 wd_p_22 cf_X8_addLays (Nat.le_refl _) hbc hbs (cat_ok (Nat.le_of_ble_eq_true rfl)) rfl rfl ha_r13 dX8_makeLays_71 hf (fun σ12 hk => ?_)
    replace hf := hk
    clear hk
    refine r_iinc (j := 3) (w := (v3 + 1)) (L' := [(3, aI (v3 + 1)), (0, aR (some v0)), (1, aR (some v1)), (2, aI v2)]) rfl (by rfl) rfl (Nat.le_of_ble_eq_true rfl) dX8_makeLays_74 ?_
    refine r_goto (tgt := 36) (by decide) dX8_makeLays_77 ?_
    exact r_sub [1, 2, 3, 0] rfl (hX36 _ _ _ _ _ _ _ hf)
def Z_X8_makeLays_36 (l : Launch) (G : GG) (d : Nat) (X23 : Nat → Nat → Int32 → Hp → Nat → Nat → Prop) (K : Hp → Prop) : Nat → Nat → Nat → Int32 → Int32 → Hp → Nat → Nat → Prop
  | 0 => fun _ _ _ _ _ _ _ => False
  | n + 1 => fun v0 v1 v2 v3 σ bc bs => F_X8_makeLays_36 l G d X23 (Z_X8_makeLays_36 l G d X23 K n) v0 v1 v2 v3 σ bc bs K
theorem z_X8_makeLays_36 {l : Launch} {G : GG} {d : Nat} {X23 : Nat → Nat → Int32 → Hp → Nat → Nat → Prop} {K : Hp → Prop} (hX23 : ∀ v0 v1 v2 σ bc bs, X23 v0 v1 v2 σ bc bs → Wd l G (d + 1) "CoinsLaid$Table" yX8_makeLays cX8_makeLays 6 none 23 [(0, aR (some v0)), (1, aR (some v1)), (2, aI v2)] [] σ bc bs (xM (QV K))) : ∀ (n : Nat) v0 v1 v2 v3 σ bc bs, Z_X8_makeLays_36 l G d X23 K n v0 v1 v2 v3 σ bc bs → Wd l G (d + 1) "CoinsLaid$Table" yX8_makeLays cX8_makeLays 6 none 36 [(0, aR (some v0)), (1, aR (some v1)), (2, aI v2), (3, aI v3)] [] σ bc bs (xM (QV K)) := by
  intro n
  induction n with
  | zero => intro v0 v1 v2 v3 σ bc bs hf; exact hf.elim
  | succ n ih => intro v0 v1 v2 v3 σ bc bs hf; exact b_X8_makeLays_36 hX23 ih hf
def F_X8_makeLays_147 (l : Launch) (G : GG) (d : Nat) (X147 : Nat → Nat → Int32 → Int32 → Hp → Nat → Nat → Prop) (v0 : Nat) (v2 : Nat) (v3 : Int32) (v4 : Int32) (σ : Hp) (bc bs : Nat) (K : Hp → Prop) : Prop :=
  ((v3 : Int32) ≤ (v4 : Int32) →
    K σ) ∧
  (¬ (v3 : Int32) ≤ (v4 : Int32) →
    gN 3 σ v2 v4 fun x16 =>
    C_X8_turnedHalfRound l G d v0 x16 σ fun r18 σ17 =>
    pF σ17 x16 2 8 (aR r18) fun σ19 =>
    X147 v0 v2 v3 (v4 + 1) σ19 bc bs)
set_option maxRecDepth 100000 in
set_option maxHeartbeats 4000000 in
theorem b_X8_makeLays_147 {l : Launch} {G : GG} {d : Nat} {X147 : Nat → Nat → Int32 → Int32 → Hp → Nat → Nat → Prop} {v0 : Nat} {v2 : Nat} {v3 : Int32} {v4 : Int32} {σ : Hp} {bc bs : Nat} {K : Hp → Prop} (hX147 : ∀ v0 v2 v3 v4 σ bc bs, X147 v0 v2 v3 v4 σ bc bs → Wd l G (d + 1) "CoinsLaid$Table" yX8_makeLays cX8_makeLays 6 none 147 [(0, aR (some v0)), (2, aR (some v2)), (3, aI v3), (4, aI v4)] [] σ bc bs (xM (QV K))) (hf : F_X8_makeLays_147 l G d X147 v0 v2 v3 v4 σ bc bs K) : Wd l G (d + 1) "CoinsLaid$Table" yX8_makeLays cX8_makeLays 6 none 147 [(0, aR (some v0)), (2, aR (some v2)), (3, aI v3), (4, aI v4)] [] σ bc bs (xM (QV K)) := by
  unfold F_X8_makeLays_147 at hf
  refine r_iload (j := 3) rfl dX8_makeLays_147 ?_
  refine r_iload_n (j := 2) rfl rfl dX8_makeLays_149 ?_
  refine r_icmpge (x := v4) (y := v3) (tgt := 176) (by decide) dX8_makeLays_150 (fun hc => ?_) (fun hc => ?_)
  · replace hf := hf.1 hc
    exact r_return rfl dX8_makeLays_176 rfl ⟨rfl, hf⟩
  · replace hf := hf.2 hc
    refine r_aload_n (j := 1) rfl rfl dX8_makeLays_153 ?_
    refine r_iload (j := 3) rfl dX8_makeLays_154 ?_
    obtain ⟨N_x16, f_x16, x16, ha_x16, hi_x16, hv_x16, hf⟩ := hf
    refine r_aald3 ha_x16 hi_x16 dX8_makeLays_156 ?_
    rw [hv_x16]
    refine r_astore (L' := [(5, aR (some x16)), (0, aR (some v0)), (2, aR (some v2)), (3, aI v3), (4, aI v4)]) rfl (Nat.le_of_ble_eq_true rfl) dX8_makeLays_157 ?_
    refine r_aload (j := 0) rfl dX8_makeLays_159 ?_
    refine r_aload_n (j := 1) rfl rfl dX8_makeLays_161 ?_
    refine r_aload (j := 0) rfl dX8_makeLays_162 ?_
    try unfold C_X8_turnedHalfRound at hf
    obtain ⟨⟨fs_r18, ha_r18⟩, hf⟩ := hf
    refine r_invVR (t := 8) (As := [aR (some x16)]) (dz := d) (mz := 0) (sz := 0) rfl wd_4_62 wd_4_64 wd_p_27 cf_X8_turnedHalfRound (Nat.le_refl _) (Nat.zero_le _) (Nat.zero_le _) (cat_ok (Nat.le_of_ble_eq_true rfl)) rfl rfl ha_r18 dX8_makeLays_164 hf (fun r18 σ17 hk => ?_)
    replace hf := hk
    clear hk
    obtain ⟨fs_x20, ha_x20, hf⟩ := hf
    generalize hσ19 : hset σ17 x16 (.inl (2, fs_x20.set 8 (aR r18))) = σ19 at hf
    refine r_put (Cn := RX2) (Tt := TX2) (N := 9) (n := 8) (v := aR r18) rfl uw_X2 (Nat.le_of_ble_eq_true rfl) wd_4_36 ha_x20 (ty0 := tyX2) tyX2_ok nmX2 rfl (fo_R _ r18) dX8_makeLays_167 ?_
    rw [hσ19]
    refine r_iinc (j := 4) (w := (v4 + 1)) (L' := [(4, aI (v4 + 1)), (5, aR (some x16)), (0, aR (some v0)), (2, aR (some v2)), (3, aI v3)]) rfl (by rfl) rfl (Nat.le_of_ble_eq_true rfl) dX8_makeLays_170 ?_
    refine r_goto (tgt := 147) (by decide) dX8_makeLays_173 ?_
    exact r_sub [2, 3, 4, 0] rfl (hX147 _ _ _ _ _ _ _ hf)
def Z_X8_makeLays_147 (l : Launch) (G : GG) (d : Nat) (K : Hp → Prop) : Nat → Nat → Nat → Int32 → Int32 → Hp → Nat → Nat → Prop
  | 0 => fun _ _ _ _ _ _ _ => False
  | n + 1 => fun v0 v2 v3 v4 σ bc bs => F_X8_makeLays_147 l G d (Z_X8_makeLays_147 l G d K n) v0 v2 v3 v4 σ bc bs K
theorem z_X8_makeLays_147 {l : Launch} {G : GG} {d : Nat} {K : Hp → Prop} : ∀ (n : Nat) v0 v2 v3 v4 σ bc bs, Z_X8_makeLays_147 l G d K n v0 v2 v3 v4 σ bc bs → Wd l G (d + 1) "CoinsLaid$Table" yX8_makeLays cX8_makeLays 6 none 147 [(0, aR (some v0)), (2, aR (some v2)), (3, aI v3), (4, aI v4)] [] σ bc bs (xM (QV K)) := by
  intro n
  induction n with
  | zero => intro v0 v2 v3 v4 σ bc bs hf; exact hf.elim
  | succ n ih => intro v0 v2 v3 v4 σ bc bs hf; exact b_X8_makeLays_147 ih hf
def F_X8_makeLays_136 (l : Launch) (G : GG) (d : Nat) (v0 : Nat) (σ : Hp) (bc bs : Nat) (K : Hp → Prop) : Prop :=
  fN σ v0 8 8 fun x21 =>
  aL σ x21 fun x22 =>
  ∃ n, Z_X8_makeLays_147 l G d K n v0 x21 x22 0 σ bc bs
set_option maxRecDepth 100000 in
set_option maxHeartbeats 4000000 in
theorem b_X8_makeLays_136 {l : Launch} {G : GG} {d : Nat} {v0 : Nat} {σ : Hp} {bc bs : Nat} {K : Hp → Prop} (hf : F_X8_makeLays_136 l G d v0 σ bc bs K) : Wd l G (d + 1) "CoinsLaid$Table" yX8_makeLays cX8_makeLays 6 none 136 [(0, aR (some v0))] [] σ bc bs (xM (QV K)) := by
  unfold F_X8_makeLays_136 at hf
  refine r_aload_n (j := 0) rfl rfl dX8_makeLays_136 ?_
  obtain ⟨fs_x21, x21, ha_x21, hv_x21, hf⟩ := hf
  refine r_get (Cn := RX8) (Tt := TX8) (N := 9) (n := 8) rfl uw_X8 (Nat.le_of_ble_eq_true rfl) wd_2_79 ha_x21 hv_x21 dX8_makeLays_137 ?_
  refine r_astore_n (L' := [(2, aR (some x21)), (0, aR (some v0))]) rfl rfl (Nat.le_of_ble_eq_true rfl) dX8_makeLays_140 ?_
  refine r_aload_n (j := 0) rfl rfl dX8_makeLays_141 ?_
  obtain ⟨t_x22, N_x22, f_x22, ha_x22, hf⟩ := hf
  refine r_alen ha_x22 dX8_makeLays_142 ?_
  generalize nI N_x22 = x22 at hf ⊢
  refine r_istore_n (L' := [(3, aI x22), (2, aR (some x21)), (0, aR (some v0))]) rfl rfl (Nat.le_of_ble_eq_true rfl) dX8_makeLays_143 ?_
  refine r_iconst (v := 0) (by decide) dX8_makeLays_144 ?_
  refine r_istore (L' := [(4, aI 0), (3, aI x22), (2, aR (some x21)), (0, aR (some v0))]) rfl (Nat.le_of_ble_eq_true rfl) dX8_makeLays_145 ?_
  obtain ⟨n, hf⟩ := hf
  exact r_sub [3, 2, 1, 0] rfl (z_X8_makeLays_147 n _ _ _ _ _ _ _ hf)
def F_X8_makeLays_99 (l : Launch) (G : GG) (d : Nat) (X99 : Nat → Nat → Int32 → Hp → Nat → Nat → Prop) (v0 : Nat) (v1 : Nat) (v2 : Int32) (σ : Hp) (bc bs : Nat) (K : Hp → Prop) : Prop :=
  fN σ v0 8 8 fun x23 =>
  aL σ x23 fun x24 =>
  ((x24 : Int32) ≤ (v2 : Int32) →
    F_X8_makeLays_136 l G d v0 σ bc bs K) ∧
  (¬ (x24 : Int32) ≤ (v2 : Int32) →
    C_Jx4a65c_size_8abf5 l G d v1 σ fun r26 σ25 =>
    ((r26 : Int32) ≤ (v2 : Int32) →
      F_X8_makeLays_136 l G d v0 σ25 bc bs K) ∧
    (¬ (r26 : Int32) ≤ (v2 : Int32) →
      fN σ25 v0 8 8 fun x27 =>
      C_Jx4a65c_get_915e3 l G d v1 v2 σ25 fun r29 σ28 =>
      rv σ28 r29 2 ∧
      sN 3 2 σ28 x27 v2 r29 fun σ31 =>
      X99 v0 v1 (v2 + 1) σ31 bc bs))
set_option maxRecDepth 100000 in
set_option maxHeartbeats 4000000 in
theorem b_X8_makeLays_99 {l : Launch} {G : GG} {d : Nat} {X99 : Nat → Nat → Int32 → Hp → Nat → Nat → Prop} {v0 : Nat} {v1 : Nat} {v2 : Int32} {σ : Hp} {bc bs : Nat} {K : Hp → Prop} (hX99 : ∀ v0 v1 v2 σ bc bs, X99 v0 v1 v2 σ bc bs → Wd l G (d + 1) "CoinsLaid$Table" yX8_makeLays cX8_makeLays 6 none 99 [(0, aR (some v0)), (1, aR (some v1)), (2, aI v2)] [] σ bc bs (xM (QV K))) (hf : F_X8_makeLays_99 l G d X99 v0 v1 v2 σ bc bs K) : Wd l G (d + 1) "CoinsLaid$Table" yX8_makeLays cX8_makeLays 6 none 99 [(0, aR (some v0)), (1, aR (some v1)), (2, aI v2)] [] σ bc bs (xM (QV K)) := by
  unfold F_X8_makeLays_99 at hf
  refine r_iload_n (j := 2) rfl rfl dX8_makeLays_99 ?_
  refine r_aload_n (j := 0) rfl rfl dX8_makeLays_100 ?_
  obtain ⟨fs_x23, x23, ha_x23, hv_x23, hf⟩ := hf
  refine r_get (Cn := RX8) (Tt := TX8) (N := 9) (n := 8) rfl uw_X8 (Nat.le_of_ble_eq_true rfl) wd_2_79 ha_x23 hv_x23 dX8_makeLays_101 ?_
  obtain ⟨t_x24, N_x24, f_x24, ha_x24, hf⟩ := hf
  refine r_alen ha_x24 dX8_makeLays_104 ?_
  generalize nI N_x24 = x24 at hf ⊢
  refine r_icmpge (x := v2) (y := x24) (tgt := 136) (by decide) dX8_makeLays_105 (fun hc => ?_) (fun hc => ?_)
  · replace hf := hf.1 hc
    exact r_sub [0] rfl (b_X8_makeLays_136 hf)
  · replace hf := hf.2 hc
    refine r_iload_n (j := 2) rfl rfl dX8_makeLays_108 ?_
    refine r_aload_n (j := 1) rfl rfl dX8_makeLays_109 ?_
    try unfold C_Jx4a65c_size_8abf5 at hf
    obtain ⟨⟨fs_r26, ha_r26⟩, hf⟩ := hf
    refine r_invVI (t := 13) (As := []) (dz := d) (mz := 0) (sz := 0) rfl wd_3_13 wd_2_223 wd_2_224 cf_Jx4a65c_size_8abf5 (Nat.le_refl _) (Nat.zero_le _) (Nat.zero_le _) (cat_ok (Nat.le_of_ble_eq_true rfl)) rfl rfl ha_r26 dX8_makeLays_110 hf (fun r26 σ25 hk => ?_)
    replace hf := hk
    clear hk
    refine r_icmpge (x := v2) (y := r26) (tgt := 136) (by decide) dX8_makeLays_113 (fun hc => ?_) (fun hc => ?_)
    · replace hf := hf.1 hc
      exact r_sub [0] rfl (b_X8_makeLays_136 hf)
    · replace hf := hf.2 hc
      refine r_aload_n (j := 0) rfl rfl dX8_makeLays_116 ?_
      obtain ⟨fs_x27, x27, ha_x27, hv_x27, hf⟩ := hf
      refine r_get (Cn := RX8) (Tt := TX8) (N := 9) (n := 8) rfl uw_X8 (Nat.le_of_ble_eq_true rfl) wd_2_79 ha_x27 hv_x27 dX8_makeLays_117 ?_
      refine r_iload_n (j := 2) rfl rfl dX8_makeLays_120 ?_
      refine r_aload_n (j := 1) rfl rfl dX8_makeLays_121 ?_
      refine r_iload_n (j := 2) rfl rfl dX8_makeLays_122 ?_
      try unfold C_Jx4a65c_get_915e3 at hf
      obtain ⟨⟨fs_r29, ha_r29⟩, hf⟩ := hf
      refine r_invVN (t := 13) (As := [aI v2]) (dz := d) (mz := 0) (sz := 0) rfl wd_3_14 wd_3_15 wd_3_16 cf_Jx4a65c_get_915e3 (Nat.le_refl _) (Nat.zero_le _) (Nat.zero_le _) (cat_ok (Nat.le_of_ble_eq_true rfl)) rfl rfl ha_r29 dX8_makeLays_123 hf (fun r29 σ28 hk => ?_)
      replace hf := hk
      clear hk
      obtain ⟨⟨fs_x30, ha_x30⟩, hf⟩ := hf
      refine r_cast (t := 2) rfl wd_2_53 ha_x30 dX8_makeLays_126 ?_
      obtain ⟨N_x32, f_x32, ha_x32, ⟨vs_x32, hx_x32⟩, hi_x32, hf⟩ := hf
      generalize hσ31 : hset σ28 x27 (rA 3 N_x32 (up_ f_x32 (v2 : Int32).toNatClampNeg (some r29))) = σ31 at hf
      refine r_aast3 (f := f_x32) (x := r29) ha_x32 hx_x32 hi_x32 dX8_makeLays_129 ?_
      refine Eq.mpr (congrArg (fun z => Wd _ _ _ _ _ _ _ _ _ _ _ z _ _ _) hσ31) ?_
      refine r_iinc (j := 2) (w := (v2 + 1)) (L' := [(2, aI (v2 + 1)), (0, aR (some v0)), (1, aR (some v1))]) rfl (by rfl) rfl (Nat.le_of_ble_eq_true rfl) dX8_makeLays_130 ?_
      refine r_goto (tgt := 99) (by decide) dX8_makeLays_133 ?_
      exact r_sub [1, 2, 0] rfl (hX99 _ _ _ _ _ _ hf)
def Z_X8_makeLays_99 (l : Launch) (G : GG) (d : Nat) (K : Hp → Prop) : Nat → Nat → Nat → Int32 → Hp → Nat → Nat → Prop
  | 0 => fun _ _ _ _ _ _ => False
  | n + 1 => fun v0 v1 v2 σ bc bs => F_X8_makeLays_99 l G d (Z_X8_makeLays_99 l G d K n) v0 v1 v2 σ bc bs K
theorem z_X8_makeLays_99 {l : Launch} {G : GG} {d : Nat} {K : Hp → Prop} : ∀ (n : Nat) v0 v1 v2 σ bc bs, Z_X8_makeLays_99 l G d K n v0 v1 v2 σ bc bs → Wd l G (d + 1) "CoinsLaid$Table" yX8_makeLays cX8_makeLays 6 none 99 [(0, aR (some v0)), (1, aR (some v1)), (2, aI v2)] [] σ bc bs (xM (QV K)) := by
  intro n
  induction n with
  | zero => intro v0 v1 v2 σ bc bs hf; exact hf.elim
  | succ n ih => intro v0 v1 v2 σ bc bs hf; exact b_X8_makeLays_99 ih hf
def F_X8_makeLays_23 (l : Launch) (G : GG) (d : Nat) (X23 : Nat → Nat → Int32 → Hp → Nat → Nat → Prop) (v0 : Nat) (v1 : Nat) (v2 : Int32) (σ : Hp) (bc bs : Nat) (K : Hp → Prop) : Prop :=
  fN σ v0 8 4 fun x33 =>
  C_Jx4a65c_size_8abf5 l G d x33 σ fun r35 σ34 =>
  ((r35 : Int32) ≤ (v2 : Int32) →
    C_Jx4a65c_size_8abf5 l G d v1 σ34 fun r37 σ36 =>
    nA_ 3 σ36 r37 bc bs fun N40 q38 σ39 =>
    pF σ39 v0 8 8 (aR (some q38)) fun σ41 =>
    ∃ n, Z_X8_makeLays_99 l G d K n v0 v1 0 σ41 (bc - 1) (bs - N40)) ∧
  (¬ (r35 : Int32) ≤ (v2 : Int32) →
    ∃ n, Z_X8_makeLays_36 l G d X23 K n v0 v1 v2 0 σ34 bc bs)
set_option maxRecDepth 100000 in
set_option maxHeartbeats 4000000 in
theorem b_X8_makeLays_23 {l : Launch} {G : GG} {d : Nat} {X23 : Nat → Nat → Int32 → Hp → Nat → Nat → Prop} {v0 : Nat} {v1 : Nat} {v2 : Int32} {σ : Hp} {bc bs : Nat} {K : Hp → Prop} (hX23 : ∀ v0 v1 v2 σ bc bs, X23 v0 v1 v2 σ bc bs → Wd l G (d + 1) "CoinsLaid$Table" yX8_makeLays cX8_makeLays 6 none 23 [(0, aR (some v0)), (1, aR (some v1)), (2, aI v2)] [] σ bc bs (xM (QV K))) (hf : F_X8_makeLays_23 l G d X23 v0 v1 v2 σ bc bs K) : Wd l G (d + 1) "CoinsLaid$Table" yX8_makeLays cX8_makeLays 6 none 23 [(0, aR (some v0)), (1, aR (some v1)), (2, aI v2)] [] σ bc bs (xM (QV K)) := by
  unfold F_X8_makeLays_23 at hf
  refine r_iload_n (j := 2) rfl rfl dX8_makeLays_23 ?_
  refine r_aload_n (j := 0) rfl rfl dX8_makeLays_24 ?_
  obtain ⟨fs_x33, x33, ha_x33, hv_x33, hf⟩ := hf
  refine r_get (Cn := RX8) (Tt := TX8) (N := 9) (n := 4) rfl uw_X8 (Nat.le_of_ble_eq_true rfl) wd_2_66 ha_x33 hv_x33 dX8_makeLays_25 ?_
  try unfold C_Jx4a65c_size_8abf5 at hf
  obtain ⟨⟨fs_r35, ha_r35⟩, hf⟩ := hf
  refine r_invVI (t := 13) (As := []) (dz := d) (mz := 0) (sz := 0) rfl wd_3_13 wd_2_223 wd_2_224 cf_Jx4a65c_size_8abf5 (Nat.le_refl _) (Nat.zero_le _) (Nat.zero_le _) (cat_ok (Nat.le_of_ble_eq_true rfl)) rfl rfl ha_r35 dX8_makeLays_28 hf (fun r35 σ34 hk => ?_)
  replace hf := hk
  clear hk
  refine r_icmpge (x := v2) (y := r35) (tgt := 86) (by decide) dX8_makeLays_31 (fun hc => ?_) (fun hc => ?_)
  · replace hf := hf.1 hc
    refine r_aload_n (j := 0) rfl rfl dX8_makeLays_86 ?_
    refine r_aload_n (j := 1) rfl rfl dX8_makeLays_87 ?_
    try unfold C_Jx4a65c_size_8abf5 at hf
    obtain ⟨⟨fs_r37, ha_r37⟩, hf⟩ := hf
    refine r_invVI (t := 13) (As := []) (dz := d) (mz := 0) (sz := 0) rfl wd_3_13 wd_2_223 wd_2_224 cf_Jx4a65c_size_8abf5 (Nat.le_refl _) (Nat.zero_le _) (Nat.zero_le _) (cat_ok (Nat.le_of_ble_eq_true rfl)) rfl rfl ha_r37 dX8_makeLays_88 hf (fun r37 σ36 hk => ?_)
    replace hf := hk
    clear hk
    obtain ⟨N40, hn_N40, hl_N40, hbc, hbs, hf⟩ := hf
    refine r_newA3 wd_2_53 hn_N40 hl_N40 hbc hbs dX8_makeLays_91 (fun q38 hq_q38 => ?_)
    replace hf := hf q38 hq_q38
    refine Eq.mpr (congrArg (fun z => Wd _ _ _ _ _ _ _ _ _ _ _ z _ _ _) (rfl : _ = hset σ36 q38 (rA 3 N40 fun _ => none))) ?_
    generalize hset σ36 q38 (rA 3 N40 fun _ => none) = σ39 at hf ⊢
    obtain ⟨fs_x42, ha_x42, hf⟩ := hf
    generalize hσ41 : hset σ39 v0 (.inl (8, fs_x42.set 8 (aR (some q38)))) = σ41 at hf
    refine r_put (Cn := RX8) (Tt := TX8) (N := 9) (n := 8) (v := aR (some q38)) rfl uw_X8 (Nat.le_of_ble_eq_true rfl) wd_2_79 ha_x42 (ty0 := tyX8) tyX8_ok nmX8 rfl (fo_A _ (some q38)) dX8_makeLays_94 ?_
    rw [hσ41]
    refine r_iconst (v := 0) (by decide) dX8_makeLays_97 ?_
    refine r_istore_n (L' := [(2, aI 0), (0, aR (some v0)), (1, aR (some v1))]) rfl rfl (Nat.le_of_ble_eq_true rfl) dX8_makeLays_98 ?_
    obtain ⟨n, hf⟩ := hf
    exact r_sub [1, 2, 0] rfl (z_X8_makeLays_99 n _ _ _ _ _ _ hf)
  · replace hf := hf.2 hc
    refine r_iconst (v := 0) (by decide) dX8_makeLays_34 ?_
    refine r_istore_n (L' := [(3, aI 0), (0, aR (some v0)), (1, aR (some v1)), (2, aI v2)]) rfl rfl (Nat.le_of_ble_eq_true rfl) dX8_makeLays_35 ?_
    obtain ⟨n, hf⟩ := hf
    exact r_sub [1, 2, 3, 0] rfl (z_X8_makeLays_36 hX23 n _ _ _ _ _ _ _ hf)
def Z_X8_makeLays_23 (l : Launch) (G : GG) (d : Nat) (K : Hp → Prop) : Nat → Nat → Nat → Int32 → Hp → Nat → Nat → Prop
  | 0 => fun _ _ _ _ _ _ => False
  | n + 1 => fun v0 v1 v2 σ bc bs => F_X8_makeLays_23 l G d (Z_X8_makeLays_23 l G d K n) v0 v1 v2 σ bc bs K
theorem z_X8_makeLays_23 {l : Launch} {G : GG} {d : Nat} {K : Hp → Prop} : ∀ (n : Nat) v0 v1 v2 σ bc bs, Z_X8_makeLays_23 l G d K n v0 v1 v2 σ bc bs → Wd l G (d + 1) "CoinsLaid$Table" yX8_makeLays cX8_makeLays 6 none 23 [(0, aR (some v0)), (1, aR (some v1)), (2, aI v2)] [] σ bc bs (xM (QV K)) := by
  intro n
  induction n with
  | zero => intro v0 v1 v2 σ bc bs hf; exact hf.elim
  | succ n ih => intro v0 v1 v2 σ bc bs hf; exact b_X8_makeLays_23 ih hf
def F_X8_makeLays (l : Launch) (G : GG) (d : Nat) (v0 : Nat) (σ : Hp) (bc bs : Nat) (K : Hp → Prop) : Prop :=
  fZ σ v0 8 7 fun x43 =>
  (x43 = false →
    pF σ v0 8 7 (aI (bi true)) fun σ44 =>
    nO σ44 13 [aI 0, aR none, aI 0] 3 bc bs fun q46 σ47 =>
    C_Jx4a65c_init_da8c8 l G d q46 σ47 fun σ48 =>
    ∃ n, Z_X8_makeLays_23 l G d K n v0 q46 0 σ48 (bc - 1) (bs - 3)) ∧
  (x43 = true →
    K σ)
set_option maxRecDepth 100000 in
set_option maxHeartbeats 4000000 in
theorem b_X8_makeLays_0 {l : Launch} {G : GG} {d : Nat} {v0 : Nat} {σ : Hp} {bc bs : Nat} {K : Hp → Prop} (hf : F_X8_makeLays l G d v0 σ bc bs K) : Wd l G (d + 1) "CoinsLaid$Table" yX8_makeLays cX8_makeLays 6 none 0 [(0, aR (some v0))] [] σ bc bs (xM (QV K)) := by
  unfold F_X8_makeLays at hf
  refine r_aload_n (j := 0) rfl rfl dX8_makeLays_0 ?_
  obtain ⟨fs_x43, x43, ha_x43, hv_x43, hf⟩ := hf
  refine r_get (Cn := RX8) (Tt := TX8) (N := 9) (n := 7) rfl uw_X8 (Nat.le_of_ble_eq_true rfl) wd_2_77 ha_x43 hv_x43 dX8_makeLays_1 ?_
  refine r_ifeqZ (b := x43) (tgt := 8) (by decide) dX8_makeLays_4 (fun hc => ?_) (fun hc => ?_)
  · replace hf := hf.1 hc
    refine r_aload_n (j := 0) rfl rfl dX8_makeLays_8 ?_
    refine r_iconst (v := 1) (by decide) dX8_makeLays_9 ?_
    obtain ⟨fs_x45, ha_x45, hf⟩ := hf
    generalize hσ44 : hset σ v0 (.inl (8, fs_x45.set 7 (aI (bi true)))) = σ44 at hf
    refine r_put (Cn := RX8) (Tt := TX8) (N := 9) (n := 7) (v := aI (bi true)) rfl uw_X8 (Nat.le_of_ble_eq_true rfl) wd_2_77 ha_x45 (ty0 := tyX8) tyX8_ok nmX8 rfl (fo_Z true) dX8_makeLays_10 ?_
    rw [hσ44]
    obtain ⟨hbc, hbs, hf⟩ := hf
    refine r_new (t := 13) (Cn := RJx4a65c) (Tt := TJx4a65c) (N := 3) (fs := [aI 0, aR none, aI 0]) (ty0 := tyJx4a65c) rfl uw_J tyJx4a65c_ok wd_2_27 wd_2_28 wd_1_13 rfl dfv_J hbc hbs dX8_makeLays_13 (fun q46 hq_q46 => ?_)
    replace hf := hf q46 hq_q46
    generalize hset σ44 q46 (.inl (13, [aI 0, aR none, aI 0])) = σ47 at hf ⊢
    refine r_dup rfl dX8_makeLays_16 ?_
    try unfold C_Jx4a65c_init_da8c8 at hf
    refine r_invIU (As := []) (dz := d) (mz := 0) (sz := 0) rfl wd_2_29 wd_2_30 rfl rfl cf_Jx4a65c_init_da8c8 (Nat.le_refl _) (Nat.zero_le _) (Nat.zero_le _) (cat_ok (Nat.le_of_ble_eq_true rfl)) dX8_makeLays_17 hf (fun σ48 hk => ?_)
    replace hf := hk
    clear hk
    refine r_astore_n (L' := [(1, aR (some q46)), (0, aR (some v0))]) rfl rfl (Nat.le_of_ble_eq_true rfl) dX8_makeLays_20 ?_
    refine r_iconst (v := 0) (by decide) dX8_makeLays_21 ?_
    refine r_istore_n (L' := [(2, aI 0), (1, aR (some q46)), (0, aR (some v0))]) rfl rfl (Nat.le_of_ble_eq_true rfl) dX8_makeLays_22 ?_
    obtain ⟨n, hf⟩ := hf
    exact r_sub [2, 1, 0] rfl (z_X8_makeLays_23 n _ _ _ _ _ _ hf)
  · replace hf := hf.2 hc
    exact r_return rfl dX8_makeLays_7 rfl ⟨rfl, hf⟩
theorem m_X8_makeLays {l : Launch} {G : GG} {d : Nat} {mc ms : Nat} {v0 : Nat} {σ : Hp} {K : Hp → Prop} (hr : rv σ v0 8) (hf : F_X8_makeLays l G d v0 σ mc ms K) : C_X8_makeLays l G (d + 1) mc ms v0 σ K := ⟨hr, Sp.of (by decide) (Nat.le_of_ble_eq_true rfl) (b_X8_makeLays_0 hf) rfl⟩
def F_X8_addLays_114 (l : Launch) (G : GG) (d : Nat) (X3 : Nat → Nat → Nat → Nat → Int32 → Hp → Nat → Nat → Prop) (X15 : Nat → Nat → Nat → Nat → Int32 → Int32 → Hp → Nat → Nat → Prop) (X27 : Nat → Nat → Nat → Nat → Int32 → Int32 → Int32 → Hp → Nat → Nat → Prop) (v0 : Nat) (v1 : Nat) (v2 : Nat) (v3 : Nat) (v4 : Int32) (v5 : Int32) (v6 : Int32) (σ : Hp) (bc bs : Nat) (K : Hp → Prop) : Prop :=
  X27 v0 v1 v2 v3 v4 v5 (v6 + 1) σ bc bs
set_option maxRecDepth 100000 in
set_option maxHeartbeats 4000000 in
theorem b_X8_addLays_114 {l : Launch} {G : GG} {d : Nat} {X3 : Nat → Nat → Nat → Nat → Int32 → Hp → Nat → Nat → Prop} {X15 : Nat → Nat → Nat → Nat → Int32 → Int32 → Hp → Nat → Nat → Prop} {X27 : Nat → Nat → Nat → Nat → Int32 → Int32 → Int32 → Hp → Nat → Nat → Prop} {v0 : Nat} {v1 : Nat} {v2 : Nat} {v3 : Nat} {v4 : Int32} {v5 : Int32} {v6 : Int32} {σ : Hp} {bc bs : Nat} {K : Hp → Prop} (hX3 : ∀ v0 v1 v2 v3 v4 σ bc bs, X3 v0 v1 v2 v3 v4 σ bc bs → Wd l G (d + 1) "CoinsLaid$Table" yX8_addLays cX8_addLays 9 none 3 [(0, aR (some v0)), (1, aR (some v1)), (2, aR (some v2)), (3, aR (some v3)), (4, aI v4)] [] σ bc bs (xM (QV K))) (hX15 : ∀ v0 v1 v2 v3 v4 v5 σ bc bs, X15 v0 v1 v2 v3 v4 v5 σ bc bs → Wd l G (d + 1) "CoinsLaid$Table" yX8_addLays cX8_addLays 9 none 15 [(0, aR (some v0)), (1, aR (some v1)), (2, aR (some v2)), (3, aR (some v3)), (4, aI v4), (5, aI v5)] [] σ bc bs (xM (QV K))) (hX27 : ∀ v0 v1 v2 v3 v4 v5 v6 σ bc bs, X27 v0 v1 v2 v3 v4 v5 v6 σ bc bs → Wd l G (d + 1) "CoinsLaid$Table" yX8_addLays cX8_addLays 9 none 27 [(0, aR (some v0)), (1, aR (some v1)), (2, aR (some v2)), (3, aR (some v3)), (4, aI v4), (5, aI v5), (6, aI v6)] [] σ bc bs (xM (QV K))) (hf : F_X8_addLays_114 l G d X3 X15 X27 v0 v1 v2 v3 v4 v5 v6 σ bc bs K) : Wd l G (d + 1) "CoinsLaid$Table" yX8_addLays cX8_addLays 9 none 114 [(0, aR (some v0)), (1, aR (some v1)), (2, aR (some v2)), (3, aR (some v3)), (4, aI v4), (5, aI v5), (6, aI v6)] [] σ bc bs (xM (QV K)) := by
  unfold F_X8_addLays_114 at hf
  refine r_iinc (j := 6) (w := (v6 + 1)) (L' := [(6, aI (v6 + 1)), (0, aR (some v0)), (1, aR (some v1)), (2, aR (some v2)), (3, aR (some v3)), (4, aI v4), (5, aI v5)]) rfl (by rfl) rfl (Nat.le_of_ble_eq_true rfl) dX8_addLays_114 ?_
  refine r_goto (tgt := 27) (by decide) dX8_addLays_117 ?_
  exact r_sub [1, 2, 3, 4, 5, 6, 0] rfl (hX27 _ _ _ _ _ _ _ _ _ _ hf)
def F_X8_addLays_104 (l : Launch) (G : GG) (d : Nat) (X3 : Nat → Nat → Nat → Nat → Int32 → Hp → Nat → Nat → Prop) (X15 : Nat → Nat → Nat → Nat → Int32 → Int32 → Hp → Nat → Nat → Prop) (X27 : Nat → Nat → Nat → Nat → Int32 → Int32 → Int32 → Hp → Nat → Nat → Prop) (v0 : Nat) (v1 : Nat) (v2 : Nat) (v3 : Nat) (v4 : Int32) (v5 : Int32) (v6 : Int32) (v8 : Nat) (s0 : Nat) (s1 : Int32) (σ : Hp) (bc bs : Nat) (K : Hp → Prop) : Prop :=
  pF σ s0 2 7 (aI s1) fun σ1 =>
  ∃ mz5 sz6, mz5 ≤ bc ∧ sz6 ≤ bs ∧ C_Jx4a65c_add_9ea2d l G d mz5 sz6 v1 v8 σ1 fun r4 σ3 =>
  F_X8_addLays_114 l G d X3 X15 X27 v0 v1 v2 v3 v4 v5 v6 σ3 (bc - mz5) (bs - sz6) K
set_option maxRecDepth 100000 in
set_option maxHeartbeats 4000000 in
theorem b_X8_addLays_104 {l : Launch} {G : GG} {d : Nat} {X3 : Nat → Nat → Nat → Nat → Int32 → Hp → Nat → Nat → Prop} {X15 : Nat → Nat → Nat → Nat → Int32 → Int32 → Hp → Nat → Nat → Prop} {X27 : Nat → Nat → Nat → Nat → Int32 → Int32 → Int32 → Hp → Nat → Nat → Prop} {v0 : Nat} {v1 : Nat} {v2 : Nat} {v3 : Nat} {v4 : Int32} {v5 : Int32} {v6 : Int32} {v8 : Nat} {s0 : Nat} {s1 : Int32} {σ : Hp} {bc bs : Nat} {K : Hp → Prop} (hX3 : ∀ v0 v1 v2 v3 v4 σ bc bs, X3 v0 v1 v2 v3 v4 σ bc bs → Wd l G (d + 1) "CoinsLaid$Table" yX8_addLays cX8_addLays 9 none 3 [(0, aR (some v0)), (1, aR (some v1)), (2, aR (some v2)), (3, aR (some v3)), (4, aI v4)] [] σ bc bs (xM (QV K))) (hX15 : ∀ v0 v1 v2 v3 v4 v5 σ bc bs, X15 v0 v1 v2 v3 v4 v5 σ bc bs → Wd l G (d + 1) "CoinsLaid$Table" yX8_addLays cX8_addLays 9 none 15 [(0, aR (some v0)), (1, aR (some v1)), (2, aR (some v2)), (3, aR (some v3)), (4, aI v4), (5, aI v5)] [] σ bc bs (xM (QV K))) (hX27 : ∀ v0 v1 v2 v3 v4 v5 v6 σ bc bs, X27 v0 v1 v2 v3 v4 v5 v6 σ bc bs → Wd l G (d + 1) "CoinsLaid$Table" yX8_addLays cX8_addLays 9 none 27 [(0, aR (some v0)), (1, aR (some v1)), (2, aR (some v2)), (3, aR (some v3)), (4, aI v4), (5, aI v5), (6, aI v6)] [] σ bc bs (xM (QV K))) (hf : F_X8_addLays_104 l G d X3 X15 X27 v0 v1 v2 v3 v4 v5 v6 v8 s0 s1 σ bc bs K) : Wd l G (d + 1) "CoinsLaid$Table" yX8_addLays cX8_addLays 9 none 104 [(0, aR (some v0)), (1, aR (some v1)), (2, aR (some v2)), (3, aR (some v3)), (4, aI v4), (5, aI v5), (6, aI v6), (8, aR (some v8))] [aI s1, aR (some s0)] σ bc bs (xM (QV K)) := by
  unfold F_X8_addLays_104 at hf
  obtain ⟨fs_x2, ha_x2, hf⟩ := hf
  generalize hσ1 : hset σ s0 (.inl (2, fs_x2.set 7 (aI s1))) = σ1 at hf
  refine r_put (Cn := RX2) (Tt := TX2) (N := 9) (n := 7) (v := aI s1) rfl uw_X2 (Nat.le_of_ble_eq_true rfl) wd_4_34 ha_x2 (ty0 := tyX2) tyX2_ok nmX2 rfl (fo_I s1) dX8_addLays_104 ?_
  rw [hσ1]
  refine r_aload_n (j := 1) rfl rfl dX8_addLays_107 ?_
  refine r_aload (j := 7) rfl dX8_addLays_108 ?_
  obtain ⟨mz5, sz6, hbc, hbs, hf⟩ := hf
  try unfold C_Jx4a65c_add_9ea2d at hf
  obtain ⟨⟨fs_r4, ha_r4⟩, hf⟩ := hf
  refine r_invVZ (t := 13) (As := [aR (some v8)]) (dz := d) (mz := mz5) (sz := sz6) rfl wd_3_81 wd_3_82 wd_3_83 cf_Jx4a65c_add_9ea2d (Nat.le_refl _) hbc hbs (cat_ok (Nat.le_of_ble_eq_true rfl)) rfl rfl ha_r4 dX8_addLays_110 hf (fun r4 σ3 hk => ?_)
  replace hf := hk
  clear hk
  refine r_pop rfl dX8_addLays_113 ?_
  exact r_sub [0, 1, 2, 3, 4, 5, 6] rfl (b_X8_addLays_114 hX3 hX15 hX27 hf)
def F_X8_addLays_27 (l : Launch) (G : GG) (d : Nat) (X3 : Nat → Nat → Nat → Nat → Int32 → Hp → Nat → Nat → Prop) (X15 : Nat → Nat → Nat → Nat → Int32 → Int32 → Hp → Nat → Nat → Prop) (X27 : Nat → Nat → Nat → Nat → Int32 → Int32 → Int32 → Hp → Nat → Nat → Prop) (v0 : Nat) (v1 : Nat) (v2 : Nat) (v3 : Nat) (v4 : Int32) (v5 : Int32) (v6 : Int32) (σ : Hp) (bc bs : Nat) (K : Hp → Prop) : Prop :=
  ((4 : Int32) ≤ (v6 : Int32) →
    X15 v0 v1 v2 v3 v4 (v5 + 1) σ bc bs) ∧
  (¬ (4 : Int32) ≤ (v6 : Int32) →
    C_X5_squaresOn l G d v2 v3 v5 v4 v6 σ fun r8 σ7 =>
    ((r8 : Int32) = 0 →
      F_X8_addLays_114 l G d X3 X15 X27 v0 v1 v2 v3 v4 v5 v6 σ7 bc bs K) ∧
    (¬ (r8 : Int32) = 0 →
      fI σ7 v0 8 6 fun x9 =>
      (¬ ((r8 &&& x9) : Int32) = 0 →
        F_X8_addLays_114 l G d X3 X15 X27 v0 v1 v2 v3 v4 v5 v6 σ7 bc bs K) ∧
      (((r8 &&& x9) : Int32) = 0 →
        nO σ7 2 [aI 0, aR none, aR none, aI 0, aI 0, aI 0, aI 0, aI 0, aR none] 9 bc bs fun q10 σ11 =>
        C_Jx4a65c_size_8abf5 l G d v1 σ11 fun r13 σ12 =>
        C_X2_init l G d q10 r13 v2 v3 v5 v4 v6 r8 σ12 fun σ14 =>
        fZ σ14 v0 8 2 fun x16 =>
        (x16 = false →
          F_X8_addLays_104 l G d X3 X15 X27 v0 v1 v2 v3 v4 v5 v6 q10 q10 r8 σ14 (bc - 1) (bs - 9) K) ∧
        (x16 = true →
          C_X0_withThoseBeside l G d v3 r8 σ14 fun r18 σ17 =>
          F_X8_addLays_104 l G d X3 X15 X27 v0 v1 v2 v3 v4 v5 v6 q10 q10 r18 σ17 (bc - 1) (bs - 9) K))))
set_option maxRecDepth 100000 in
set_option maxHeartbeats 4000000 in
theorem b_X8_addLays_27 {l : Launch} {G : GG} {d : Nat} {X3 : Nat → Nat → Nat → Nat → Int32 → Hp → Nat → Nat → Prop} {X15 : Nat → Nat → Nat → Nat → Int32 → Int32 → Hp → Nat → Nat → Prop} {X27 : Nat → Nat → Nat → Nat → Int32 → Int32 → Int32 → Hp → Nat → Nat → Prop} {v0 : Nat} {v1 : Nat} {v2 : Nat} {v3 : Nat} {v4 : Int32} {v5 : Int32} {v6 : Int32} {σ : Hp} {bc bs : Nat} {K : Hp → Prop} (hX3 : ∀ v0 v1 v2 v3 v4 σ bc bs, X3 v0 v1 v2 v3 v4 σ bc bs → Wd l G (d + 1) "CoinsLaid$Table" yX8_addLays cX8_addLays 9 none 3 [(0, aR (some v0)), (1, aR (some v1)), (2, aR (some v2)), (3, aR (some v3)), (4, aI v4)] [] σ bc bs (xM (QV K))) (hX15 : ∀ v0 v1 v2 v3 v4 v5 σ bc bs, X15 v0 v1 v2 v3 v4 v5 σ bc bs → Wd l G (d + 1) "CoinsLaid$Table" yX8_addLays cX8_addLays 9 none 15 [(0, aR (some v0)), (1, aR (some v1)), (2, aR (some v2)), (3, aR (some v3)), (4, aI v4), (5, aI v5)] [] σ bc bs (xM (QV K))) (hX27 : ∀ v0 v1 v2 v3 v4 v5 v6 σ bc bs, X27 v0 v1 v2 v3 v4 v5 v6 σ bc bs → Wd l G (d + 1) "CoinsLaid$Table" yX8_addLays cX8_addLays 9 none 27 [(0, aR (some v0)), (1, aR (some v1)), (2, aR (some v2)), (3, aR (some v3)), (4, aI v4), (5, aI v5), (6, aI v6)] [] σ bc bs (xM (QV K))) (hf : F_X8_addLays_27 l G d X3 X15 X27 v0 v1 v2 v3 v4 v5 v6 σ bc bs K) : Wd l G (d + 1) "CoinsLaid$Table" yX8_addLays cX8_addLays 9 none 27 [(0, aR (some v0)), (1, aR (some v1)), (2, aR (some v2)), (3, aR (some v3)), (4, aI v4), (5, aI v5), (6, aI v6)] [] σ bc bs (xM (QV K)) := by
  unfold F_X8_addLays_27 at hf
  refine r_iload (j := 6) rfl dX8_addLays_27 ?_
  refine r_iconst (v := 4) (by decide) dX8_addLays_29 ?_
  refine r_icmpge (x := v6) (y := 4) (tgt := 120) (by decide) dX8_addLays_30 (fun hc => ?_) (fun hc => ?_)
  · replace hf := hf.1 hc
    refine r_iinc (j := 5) (w := (v5 + 1)) (L' := [(5, aI (v5 + 1)), (0, aR (some v0)), (1, aR (some v1)), (2, aR (some v2)), (3, aR (some v3)), (4, aI v4), (6, aI v6)]) rfl (by rfl) rfl (Nat.le_of_ble_eq_true rfl) dX8_addLays_120 ?_
    refine r_goto (tgt := 15) (by decide) dX8_addLays_123 ?_
    exact r_sub [1, 2, 3, 4, 5, 0] rfl (hX15 _ _ _ _ _ _ _ _ _ hf)
  · replace hf := hf.2 hc
    refine r_aload_n (j := 2) rfl rfl dX8_addLays_33 ?_
    refine r_aload_n (j := 3) rfl rfl dX8_addLays_34 ?_
    refine r_iload (j := 5) rfl dX8_addLays_35 ?_
    refine r_iload (j := 4) rfl dX8_addLays_37 ?_
    refine r_iload (j := 6) rfl dX8_addLays_39 ?_
    try unfold C_X5_squaresOn at hf
    obtain ⟨⟨fs_r8, ha_r8⟩, hf⟩ := hf
    refine r_invVI (t := 5) (As := [aR (some v3), aI v5, aI v4, aI v6]) (dz := d) (mz := 0) (sz := 0) rfl wd_3_233 wd_3_234 wd_3_235 cf_X5_squaresOn (Nat.le_refl _) (Nat.zero_le _) (Nat.zero_le _) (cat_ok (Nat.le_of_ble_eq_true rfl)) rfl rfl ha_r8 dX8_addLays_41 hf (fun r8 σ7 hk => ?_)
    replace hf := hk
    clear hk
    refine r_istore (L' := [(7, aI r8), (0, aR (some v0)), (1, aR (some v1)), (2, aR (some v2)), (3, aR (some v3)), (4, aI v4), (5, aI v5), (6, aI v6)]) rfl (Nat.le_of_ble_eq_true rfl) dX8_addLays_44 ?_
    refine r_iload (j := 0) rfl dX8_addLays_46 ?_
    refine r_ifeq (x := r8) (tgt := 114) (by decide) dX8_addLays_48 (fun hc => ?_) (fun hc => ?_)
    · replace hf := hf.1 hc
      exact r_sub [1, 2, 3, 4, 5, 6, 7] rfl (b_X8_addLays_114 hX3 hX15 hX27 hf)
    · replace hf := hf.2 hc
      refine r_iload (j := 0) rfl dX8_addLays_51 ?_
      refine r_aload_n (j := 1) rfl rfl dX8_addLays_53 ?_
      obtain ⟨fs_x9, x9, ha_x9, hv_x9, hf⟩ := hf
      refine r_get (Cn := RX8) (Tt := TX8) (N := 9) (n := 6) rfl uw_X8 (Nat.le_of_ble_eq_true rfl) wd_2_74 ha_x9 hv_x9 dX8_addLays_54 ?_
      refine r_iand (x := r8) (y := x9) dX8_addLays_57 ?_
      refine r_ifne (x := (r8 &&& x9)) (tgt := 114) (by decide) dX8_addLays_58 (fun hc => ?_) (fun hc => ?_)
      · replace hf := hf.1 hc
        exact r_sub [1, 2, 3, 4, 5, 6, 7] rfl (b_X8_addLays_114 hX3 hX15 hX27 hf)
      · replace hf := hf.2 hc
        obtain ⟨hbc, hbs, hf⟩ := hf
        refine r_new (t := 2) (Cn := RX2) (Tt := TX2) (N := 9) (fs := [aI 0, aR none, aR none, aI 0, aI 0, aI 0, aI 0, aI 0, aR none]) (ty0 := tyX2) rfl uw_X2 tyX2_ok wd_2_53 wd_4_14 wd_1_25 rfl dfv_X2 hbc hbs dX8_addLays_61 (fun q10 hq_q10 => ?_)
        replace hf := hf q10 hq_q10
        generalize hset σ7 q10 (.inl (2, [aI 0, aR none, aR none, aI 0, aI 0, aI 0, aI 0, aI 0, aR none])) = σ11 at hf ⊢
        refine r_dup rfl dX8_addLays_64 ?_
        refine r_aload_n (j := 2) rfl rfl dX8_addLays_65 ?_
        try unfold C_Jx4a65c_size_8abf5 at hf
        obtain ⟨⟨fs_r13, ha_r13⟩, hf⟩ := hf
        refine r_invVI (t := 13) (As := []) (dz := d) (mz := 0) (sz := 0) rfl wd_3_13 wd_2_223 wd_2_224 cf_Jx4a65c_size_8abf5 (Nat.le_refl _) (Nat.zero_le _) (Nat.zero_le _) (cat_ok (Nat.le_of_ble_eq_true rfl)) rfl rfl ha_r13 dX8_addLays_66 hf (fun r13 σ12 hk => ?_)
        replace hf := hk
        clear hk
        refine r_aload_n (j := 3) rfl rfl dX8_addLays_69 ?_
        refine r_aload_n (j := 4) rfl rfl dX8_addLays_70 ?_
        refine r_iload (j := 6) rfl dX8_addLays_71 ?_
        refine r_iload (j := 5) rfl dX8_addLays_73 ?_
        refine r_iload (j := 7) rfl dX8_addLays_75 ?_
        refine r_iload (j := 0) rfl dX8_addLays_77 ?_
        try unfold C_X2_init at hf
        refine r_invIU (As := [aI r13, aR (some v2), aR (some v3), aI v5, aI v4, aI v6, aI r8]) (dz := d) (mz := 0) (sz := 0) rfl wd_4_15 wd_4_16 rfl rfl cf_X2_init (Nat.le_refl _) (Nat.zero_le _) (Nat.zero_le _) (cat_ok (Nat.le_of_ble_eq_true rfl)) dX8_addLays_79 hf (fun σ14 hk => ?_)
        replace hf := hk
        clear hk
        refine r_astore (L' := [(8, aR (some q10)), (7, aI r8), (0, aR (some v0)), (1, aR (some v1)), (2, aR (some v2)), (3, aR (some v3)), (4, aI v4), (5, aI v5), (6, aI v6)]) rfl (Nat.le_of_ble_eq_true rfl) dX8_addLays_82 ?_
        refine r_aload (j := 0) rfl dX8_addLays_84 ?_
        refine r_aload_n (j := 2) rfl rfl dX8_addLays_86 ?_
        obtain ⟨fs_x16, x16, ha_x16, hv_x16, hf⟩ := hf
        refine r_get (Cn := RX8) (Tt := TX8) (N := 9) (n := 2) rfl uw_X8 (Nat.le_of_ble_eq_true rfl) wd_2_60 ha_x16 hv_x16 dX8_addLays_87 ?_
        refine r_ifeqZ (b := x16) (tgt := 102) (by decide) dX8_addLays_90 (fun hc => ?_) (fun hc => ?_)
        · replace hf := hf.1 hc
          refine r_iload (j := 1) rfl dX8_addLays_102 ?_
          exact r_sub [2, 3, 4, 5, 6, 7, 8, 0] rfl (b_X8_addLays_104 hX3 hX15 hX27 hf)
        · replace hf := hf.2 hc
          refine r_aload_n (j := 5) rfl rfl dX8_addLays_93 ?_
          refine r_iload (j := 1) rfl dX8_addLays_94 ?_
          try unfold C_X0_withThoseBeside at hf
          obtain ⟨⟨fs_r18, ha_r18⟩, hf⟩ := hf
          refine r_invVI (t := 0) (As := [aI r8]) (dz := d) (mz := 0) (sz := 0) rfl wd_4_57 wd_4_58 wd_4_59 cf_X0_withThoseBeside (Nat.le_refl _) (Nat.zero_le _) (Nat.zero_le _) (cat_ok (Nat.le_of_ble_eq_true rfl)) rfl rfl ha_r18 dX8_addLays_96 hf (fun r18 σ17 hk => ?_)
          replace hf := hk
          clear hk
          refine r_goto (tgt := 104) (by decide) dX8_addLays_99 ?_
          exact r_sub [2, 3, 4, 5, 6, 7, 8, 0] rfl (b_X8_addLays_104 hX3 hX15 hX27 hf)
def Z_X8_addLays_27 (l : Launch) (G : GG) (d : Nat) (X3 : Nat → Nat → Nat → Nat → Int32 → Hp → Nat → Nat → Prop) (X15 : Nat → Nat → Nat → Nat → Int32 → Int32 → Hp → Nat → Nat → Prop) (K : Hp → Prop) : Nat → Nat → Nat → Nat → Nat → Int32 → Int32 → Int32 → Hp → Nat → Nat → Prop
  | 0 => fun _ _ _ _ _ _ _ _ _ _ => False
  | n + 1 => fun v0 v1 v2 v3 v4 v5 v6 σ bc bs => F_X8_addLays_27 l G d X3 X15 (Z_X8_addLays_27 l G d X3 X15 K n) v0 v1 v2 v3 v4 v5 v6 σ bc bs K
theorem z_X8_addLays_27 {l : Launch} {G : GG} {d : Nat} {X3 : Nat → Nat → Nat → Nat → Int32 → Hp → Nat → Nat → Prop} {X15 : Nat → Nat → Nat → Nat → Int32 → Int32 → Hp → Nat → Nat → Prop} {K : Hp → Prop} (hX3 : ∀ v0 v1 v2 v3 v4 σ bc bs, X3 v0 v1 v2 v3 v4 σ bc bs → Wd l G (d + 1) "CoinsLaid$Table" yX8_addLays cX8_addLays 9 none 3 [(0, aR (some v0)), (1, aR (some v1)), (2, aR (some v2)), (3, aR (some v3)), (4, aI v4)] [] σ bc bs (xM (QV K))) (hX15 : ∀ v0 v1 v2 v3 v4 v5 σ bc bs, X15 v0 v1 v2 v3 v4 v5 σ bc bs → Wd l G (d + 1) "CoinsLaid$Table" yX8_addLays cX8_addLays 9 none 15 [(0, aR (some v0)), (1, aR (some v1)), (2, aR (some v2)), (3, aR (some v3)), (4, aI v4), (5, aI v5)] [] σ bc bs (xM (QV K))) : ∀ (n : Nat) v0 v1 v2 v3 v4 v5 v6 σ bc bs, Z_X8_addLays_27 l G d X3 X15 K n v0 v1 v2 v3 v4 v5 v6 σ bc bs → Wd l G (d + 1) "CoinsLaid$Table" yX8_addLays cX8_addLays 9 none 27 [(0, aR (some v0)), (1, aR (some v1)), (2, aR (some v2)), (3, aR (some v3)), (4, aI v4), (5, aI v5), (6, aI v6)] [] σ bc bs (xM (QV K)) := by
  intro n
  induction n with
  | zero => intro v0 v1 v2 v3 v4 v5 v6 σ bc bs hf; exact hf.elim
  | succ n ih => intro v0 v1 v2 v3 v4 v5 v6 σ bc bs hf; exact b_X8_addLays_27 hX3 hX15 ih hf
def F_X8_addLays_15 (l : Launch) (G : GG) (d : Nat) (X3 : Nat → Nat → Nat → Nat → Int32 → Hp → Nat → Nat → Prop) (X15 : Nat → Nat → Nat → Nat → Int32 → Int32 → Hp → Nat → Nat → Prop) (v0 : Nat) (v1 : Nat) (v2 : Nat) (v3 : Nat) (v4 : Int32) (v5 : Int32) (σ : Hp) (bc bs : Nat) (K : Hp → Prop) : Prop :=
  fI σ v3 0 2 fun x19 =>
  ((x19 : Int32) ≤ (v5 : Int32) →
    X3 v0 v1 v2 v3 (v4 + 1) σ bc bs) ∧
  (¬ (x19 : Int32) ≤ (v5 : Int32) →
    ∃ n, Z_X8_addLays_27 l G d X3 X15 K n v0 v1 v2 v3 v4 v5 0 σ bc bs)
set_option maxRecDepth 100000 in
set_option maxHeartbeats 4000000 in
theorem b_X8_addLays_15 {l : Launch} {G : GG} {d : Nat} {X3 : Nat → Nat → Nat → Nat → Int32 → Hp → Nat → Nat → Prop} {X15 : Nat → Nat → Nat → Nat → Int32 → Int32 → Hp → Nat → Nat → Prop} {v0 : Nat} {v1 : Nat} {v2 : Nat} {v3 : Nat} {v4 : Int32} {v5 : Int32} {σ : Hp} {bc bs : Nat} {K : Hp → Prop} (hX3 : ∀ v0 v1 v2 v3 v4 σ bc bs, X3 v0 v1 v2 v3 v4 σ bc bs → Wd l G (d + 1) "CoinsLaid$Table" yX8_addLays cX8_addLays 9 none 3 [(0, aR (some v0)), (1, aR (some v1)), (2, aR (some v2)), (3, aR (some v3)), (4, aI v4)] [] σ bc bs (xM (QV K))) (hX15 : ∀ v0 v1 v2 v3 v4 v5 σ bc bs, X15 v0 v1 v2 v3 v4 v5 σ bc bs → Wd l G (d + 1) "CoinsLaid$Table" yX8_addLays cX8_addLays 9 none 15 [(0, aR (some v0)), (1, aR (some v1)), (2, aR (some v2)), (3, aR (some v3)), (4, aI v4), (5, aI v5)] [] σ bc bs (xM (QV K))) (hf : F_X8_addLays_15 l G d X3 X15 v0 v1 v2 v3 v4 v5 σ bc bs K) : Wd l G (d + 1) "CoinsLaid$Table" yX8_addLays cX8_addLays 9 none 15 [(0, aR (some v0)), (1, aR (some v1)), (2, aR (some v2)), (3, aR (some v3)), (4, aI v4), (5, aI v5)] [] σ bc bs (xM (QV K)) := by
  unfold F_X8_addLays_15 at hf
  refine r_iload (j := 5) rfl dX8_addLays_15 ?_
  refine r_aload_n (j := 3) rfl rfl dX8_addLays_17 ?_
  obtain ⟨fs_x19, x19, ha_x19, hv_x19, hf⟩ := hf
  refine r_get (Cn := RX0) (Tt := TX0) (N := 5) (n := 2) rfl uw_X0 (Nat.le_of_ble_eq_true rfl) wd_3_63 ha_x19 hv_x19 dX8_addLays_18 ?_
  refine r_icmpge (x := v5) (y := x19) (tgt := 126) (by decide) dX8_addLays_21 (fun hc => ?_) (fun hc => ?_)
  · replace hf := hf.1 hc
    refine r_iinc (j := 4) (w := (v4 + 1)) (L' := [(4, aI (v4 + 1)), (0, aR (some v0)), (1, aR (some v1)), (2, aR (some v2)), (3, aR (some v3)), (5, aI v5)]) rfl (by rfl) rfl (Nat.le_of_ble_eq_true rfl) dX8_addLays_126 ?_
    refine r_goto (tgt := 3) (by decide) dX8_addLays_129 ?_
    exact r_sub [1, 2, 3, 4, 0] rfl (hX3 _ _ _ _ _ _ _ _ hf)
  · replace hf := hf.2 hc
    refine r_iconst (v := 0) (by decide) dX8_addLays_24 ?_
    refine r_istore (L' := [(6, aI 0), (0, aR (some v0)), (1, aR (some v1)), (2, aR (some v2)), (3, aR (some v3)), (4, aI v4), (5, aI v5)]) rfl (Nat.le_of_ble_eq_true rfl) dX8_addLays_25 ?_
    obtain ⟨n, hf⟩ := hf
    exact r_sub [1, 2, 3, 4, 5, 6, 0] rfl (z_X8_addLays_27 hX3 hX15 n _ _ _ _ _ _ _ _ _ _ hf)
def Z_X8_addLays_15 (l : Launch) (G : GG) (d : Nat) (X3 : Nat → Nat → Nat → Nat → Int32 → Hp → Nat → Nat → Prop) (K : Hp → Prop) : Nat → Nat → Nat → Nat → Nat → Int32 → Int32 → Hp → Nat → Nat → Prop
  | 0 => fun _ _ _ _ _ _ _ _ _ => False
  | n + 1 => fun v0 v1 v2 v3 v4 v5 σ bc bs => F_X8_addLays_15 l G d X3 (Z_X8_addLays_15 l G d X3 K n) v0 v1 v2 v3 v4 v5 σ bc bs K
theorem z_X8_addLays_15 {l : Launch} {G : GG} {d : Nat} {X3 : Nat → Nat → Nat → Nat → Int32 → Hp → Nat → Nat → Prop} {K : Hp → Prop} (hX3 : ∀ v0 v1 v2 v3 v4 σ bc bs, X3 v0 v1 v2 v3 v4 σ bc bs → Wd l G (d + 1) "CoinsLaid$Table" yX8_addLays cX8_addLays 9 none 3 [(0, aR (some v0)), (1, aR (some v1)), (2, aR (some v2)), (3, aR (some v3)), (4, aI v4)] [] σ bc bs (xM (QV K))) : ∀ (n : Nat) v0 v1 v2 v3 v4 v5 σ bc bs, Z_X8_addLays_15 l G d X3 K n v0 v1 v2 v3 v4 v5 σ bc bs → Wd l G (d + 1) "CoinsLaid$Table" yX8_addLays cX8_addLays 9 none 15 [(0, aR (some v0)), (1, aR (some v1)), (2, aR (some v2)), (3, aR (some v3)), (4, aI v4), (5, aI v5)] [] σ bc bs (xM (QV K)) := by
  intro n
  induction n with
  | zero => intro v0 v1 v2 v3 v4 v5 σ bc bs hf; exact hf.elim
  | succ n ih => intro v0 v1 v2 v3 v4 v5 σ bc bs hf; exact b_X8_addLays_15 hX3 ih hf
def F_X8_addLays_3 (l : Launch) (G : GG) (d : Nat) (X3 : Nat → Nat → Nat → Nat → Int32 → Hp → Nat → Nat → Prop) (v0 : Nat) (v1 : Nat) (v2 : Nat) (v3 : Nat) (v4 : Int32) (σ : Hp) (bc bs : Nat) (K : Hp → Prop) : Prop :=
  fI σ v3 0 3 fun x20 =>
  ((x20 : Int32) ≤ (v4 : Int32) →
    K σ) ∧
  (¬ (x20 : Int32) ≤ (v4 : Int32) →
    ∃ n, Z_X8_addLays_15 l G d X3 K n v0 v1 v2 v3 v4 0 σ bc bs)
set_option maxRecDepth 100000 in
set_option maxHeartbeats 4000000 in
theorem b_X8_addLays_3 {l : Launch} {G : GG} {d : Nat} {X3 : Nat → Nat → Nat → Nat → Int32 → Hp → Nat → Nat → Prop} {v0 : Nat} {v1 : Nat} {v2 : Nat} {v3 : Nat} {v4 : Int32} {σ : Hp} {bc bs : Nat} {K : Hp → Prop} (hX3 : ∀ v0 v1 v2 v3 v4 σ bc bs, X3 v0 v1 v2 v3 v4 σ bc bs → Wd l G (d + 1) "CoinsLaid$Table" yX8_addLays cX8_addLays 9 none 3 [(0, aR (some v0)), (1, aR (some v1)), (2, aR (some v2)), (3, aR (some v3)), (4, aI v4)] [] σ bc bs (xM (QV K))) (hf : F_X8_addLays_3 l G d X3 v0 v1 v2 v3 v4 σ bc bs K) : Wd l G (d + 1) "CoinsLaid$Table" yX8_addLays cX8_addLays 9 none 3 [(0, aR (some v0)), (1, aR (some v1)), (2, aR (some v2)), (3, aR (some v3)), (4, aI v4)] [] σ bc bs (xM (QV K)) := by
  unfold F_X8_addLays_3 at hf
  refine r_iload (j := 4) rfl dX8_addLays_3 ?_
  refine r_aload_n (j := 3) rfl rfl dX8_addLays_5 ?_
  obtain ⟨fs_x20, x20, ha_x20, hv_x20, hf⟩ := hf
  refine r_get (Cn := RX0) (Tt := TX0) (N := 5) (n := 3) rfl uw_X0 (Nat.le_of_ble_eq_true rfl) wd_3_67 ha_x20 hv_x20 dX8_addLays_6 ?_
  refine r_icmpge (x := v4) (y := x20) (tgt := 132) (by decide) dX8_addLays_9 (fun hc => ?_) (fun hc => ?_)
  · replace hf := hf.1 hc
    exact r_return rfl dX8_addLays_132 rfl ⟨rfl, hf⟩
  · replace hf := hf.2 hc
    refine r_iconst (v := 0) (by decide) dX8_addLays_12 ?_
    refine r_istore (L' := [(5, aI 0), (0, aR (some v0)), (1, aR (some v1)), (2, aR (some v2)), (3, aR (some v3)), (4, aI v4)]) rfl (Nat.le_of_ble_eq_true rfl) dX8_addLays_13 ?_
    obtain ⟨n, hf⟩ := hf
    exact r_sub [1, 2, 3, 4, 5, 0] rfl (z_X8_addLays_15 hX3 n _ _ _ _ _ _ _ _ _ hf)
def Z_X8_addLays_3 (l : Launch) (G : GG) (d : Nat) (K : Hp → Prop) : Nat → Nat → Nat → Nat → Nat → Int32 → Hp → Nat → Nat → Prop
  | 0 => fun _ _ _ _ _ _ _ _ => False
  | n + 1 => fun v0 v1 v2 v3 v4 σ bc bs => F_X8_addLays_3 l G d (Z_X8_addLays_3 l G d K n) v0 v1 v2 v3 v4 σ bc bs K
theorem z_X8_addLays_3 {l : Launch} {G : GG} {d : Nat} {K : Hp → Prop} : ∀ (n : Nat) v0 v1 v2 v3 v4 σ bc bs, Z_X8_addLays_3 l G d K n v0 v1 v2 v3 v4 σ bc bs → Wd l G (d + 1) "CoinsLaid$Table" yX8_addLays cX8_addLays 9 none 3 [(0, aR (some v0)), (1, aR (some v1)), (2, aR (some v2)), (3, aR (some v3)), (4, aI v4)] [] σ bc bs (xM (QV K)) := by
  intro n
  induction n with
  | zero => intro v0 v1 v2 v3 v4 σ bc bs hf; exact hf.elim
  | succ n ih => intro v0 v1 v2 v3 v4 σ bc bs hf; exact b_X8_addLays_3 ih hf
def F_X8_addLays (l : Launch) (G : GG) (d : Nat) (v0 : Nat) (v1 : Nat) (v2 : Nat) (v3 : Nat) (σ : Hp) (bc bs : Nat) (K : Hp → Prop) : Prop :=
  ∃ n, Z_X8_addLays_3 l G d K n v0 v1 v2 v3 0 σ bc bs
set_option maxRecDepth 100000 in
set_option maxHeartbeats 4000000 in
theorem b_X8_addLays_0 {l : Launch} {G : GG} {d : Nat} {v0 : Nat} {v1 : Nat} {v2 : Nat} {v3 : Nat} {σ : Hp} {bc bs : Nat} {K : Hp → Prop} (hf : F_X8_addLays l G d v0 v1 v2 v3 σ bc bs K) : Wd l G (d + 1) "CoinsLaid$Table" yX8_addLays cX8_addLays 9 none 0 [(0, aR (some v0)), (1, aR (some v1)), (2, aR (some v2)), (3, aR (some v3))] [] σ bc bs (xM (QV K)) := by
  unfold F_X8_addLays at hf
  refine r_iconst (v := 0) (by decide) dX8_addLays_0 ?_
  refine r_istore (L' := [(4, aI 0), (0, aR (some v0)), (1, aR (some v1)), (2, aR (some v2)), (3, aR (some v3))]) rfl (Nat.le_of_ble_eq_true rfl) dX8_addLays_1 ?_
  obtain ⟨n, hf⟩ := hf
  exact r_sub [1, 2, 3, 4, 0] rfl (z_X8_addLays_3 n _ _ _ _ _ _ _ _ hf)
theorem m_X8_addLays {l : Launch} {G : GG} {d : Nat} {mc ms : Nat} {v0 : Nat} {v1 : Nat} {v2 : Nat} {v3 : Nat} {σ : Hp} {K : Hp → Prop} (hr : rv σ v0 8) (hf : F_X8_addLays l G d v0 v1 v2 v3 σ mc ms K) : C_X8_addLays l G (d + 1) mc ms v0 v1 v2 v3 σ K := ⟨hr, Sp.of (by decide) (Nat.le_of_ble_eq_true rfl) (b_X8_addLays_0 hf) rfl⟩
def F_X8_turnedHalfRound_73 (l : Launch) (G : GG) (d : Nat) (X24 : Nat → Int32 → Nat → Int32 → Int32 → Hp → Prop) (v1 : Nat) (v2 : Int32) (v3 : Nat) (v4 : Int32) (v5 : Int32) (σ : Hp) (K : Option Nat → Hp → Prop) : Prop :=
  X24 v1 v2 v3 v4 (v5 + 1) σ
set_option maxRecDepth 100000 in
set_option maxHeartbeats 4000000 in
theorem b_X8_turnedHalfRound_73 {l : Launch} {G : GG} {d : Nat} {X24 : Nat → Int32 → Nat → Int32 → Int32 → Hp → Prop} {v1 : Nat} {v2 : Int32} {v3 : Nat} {v4 : Int32} {v5 : Int32} {σ : Hp} {K : Option Nat → Hp → Prop} (hX24 : ∀ v1 v2 v3 v4 v5 σ, X24 v1 v2 v3 v4 v5 σ → Wd l G (d + 1) "CoinsLaid$Table" yX8_turnedHalfRound cX8_turnedHalfRound 7 (some (FieldType.object "CoinsLaid$Lay")) 24 [(1, aR (some v1)), (2, aI v2), (3, aR (some v3)), (4, aI v4), (5, aI v5)] [] σ 0 0 (xM (QR K))) (hf : F_X8_turnedHalfRound_73 l G d X24 v1 v2 v3 v4 v5 σ K) : Wd l G (d + 1) "CoinsLaid$Table" yX8_turnedHalfRound cX8_turnedHalfRound 7 (some (FieldType.object "CoinsLaid$Lay")) 73 [(1, aR (some v1)), (2, aI v2), (3, aR (some v3)), (4, aI v4), (5, aI v5)] [] σ 0 0 (xM (QR K)) := by
  unfold F_X8_turnedHalfRound_73 at hf
  refine r_iinc (j := 4) (w := (v5 + 1)) (L' := [(5, aI (v5 + 1)), (1, aR (some v1)), (2, aI v2), (3, aR (some v3)), (4, aI v4)]) rfl (by rfl) rfl (Nat.le_of_ble_eq_true rfl) dX8_turnedHalfRound_73 ?_
  refine r_goto (tgt := 24) (by decide) dX8_turnedHalfRound_76 ?_
  exact r_sub [1, 2, 3, 4, 0] rfl (hX24 _ _ _ _ _ _ hf)
def F_X8_turnedHalfRound_24 (l : Launch) (G : GG) (d : Nat) (X24 : Nat → Int32 → Nat → Int32 → Int32 → Hp → Prop) (v1 : Nat) (v2 : Int32) (v3 : Nat) (v4 : Int32) (v5 : Int32) (σ : Hp) (K : Option Nat → Hp → Prop) : Prop :=
  ((v4 : Int32) ≤ (v5 : Int32) →
    K none σ) ∧
  (¬ (v4 : Int32) ≤ (v5 : Int32) →
    gN 3 σ v3 v5 fun x1 =>
    fN σ x1 2 1 fun x2 =>
    fN σ v1 2 1 fun x3 =>
    (¬ ((some x2) : Option Nat) = (some x3) →
      F_X8_turnedHalfRound_73 l G d X24 v1 v2 v3 v4 v5 σ K) ∧
    (((some x2) : Option Nat) = (some x3) →
      fN σ x1 2 2 fun x4 =>
      fN σ v1 2 2 fun x5 =>
      (¬ ((some x4) : Option Nat) = (some x5) →
        F_X8_turnedHalfRound_73 l G d X24 v1 v2 v3 v4 v5 σ K) ∧
      (((some x4) : Option Nat) = (some x5) →
        fI σ x1 2 6 fun x6 =>
        (¬ (x6 : Int32) = (v2 : Int32) →
          F_X8_turnedHalfRound_73 l G d X24 v1 v2 v3 v4 v5 σ K) ∧
        ((x6 : Int32) = (v2 : Int32) →
          K (some x1) σ))))
set_option maxRecDepth 100000 in
set_option maxHeartbeats 4000000 in
theorem b_X8_turnedHalfRound_24 {l : Launch} {G : GG} {d : Nat} {X24 : Nat → Int32 → Nat → Int32 → Int32 → Hp → Prop} {v1 : Nat} {v2 : Int32} {v3 : Nat} {v4 : Int32} {v5 : Int32} {σ : Hp} {K : Option Nat → Hp → Prop} (hX24 : ∀ v1 v2 v3 v4 v5 σ, X24 v1 v2 v3 v4 v5 σ → Wd l G (d + 1) "CoinsLaid$Table" yX8_turnedHalfRound cX8_turnedHalfRound 7 (some (FieldType.object "CoinsLaid$Lay")) 24 [(1, aR (some v1)), (2, aI v2), (3, aR (some v3)), (4, aI v4), (5, aI v5)] [] σ 0 0 (xM (QR K))) (hf : F_X8_turnedHalfRound_24 l G d X24 v1 v2 v3 v4 v5 σ K) : Wd l G (d + 1) "CoinsLaid$Table" yX8_turnedHalfRound cX8_turnedHalfRound 7 (some (FieldType.object "CoinsLaid$Lay")) 24 [(1, aR (some v1)), (2, aI v2), (3, aR (some v3)), (4, aI v4), (5, aI v5)] [] σ 0 0 (xM (QR K)) := by
  unfold F_X8_turnedHalfRound_24 at hf
  refine r_iload (j := 4) rfl dX8_turnedHalfRound_24 ?_
  refine r_iload (j := 3) rfl dX8_turnedHalfRound_26 ?_
  refine r_icmpge (x := v5) (y := v4) (tgt := 79) (by decide) dX8_turnedHalfRound_28 (fun hc => ?_) (fun hc => ?_)
  · replace hf := hf.1 hc
    refine r_null dX8_turnedHalfRound_79 ?_
    exact r_areturn rfl (Or.inl ⟨_, rfl⟩) dX8_turnedHalfRound_80 rfl ⟨_, rfl, hf⟩
  · replace hf := hf.2 hc
    refine r_aload_n (j := 2) rfl rfl dX8_turnedHalfRound_31 ?_
    refine r_iload (j := 4) rfl dX8_turnedHalfRound_32 ?_
    obtain ⟨N_x1, f_x1, x1, ha_x1, hi_x1, hv_x1, hf⟩ := hf
    refine r_aald3 ha_x1 hi_x1 dX8_turnedHalfRound_34 ?_
    rw [hv_x1]
    refine r_astore (L' := [(6, aR (some x1)), (1, aR (some v1)), (2, aI v2), (3, aR (some v3)), (4, aI v4), (5, aI v5)]) rfl (Nat.le_of_ble_eq_true rfl) dX8_turnedHalfRound_35 ?_
    refine r_aload (j := 0) rfl dX8_turnedHalfRound_37 ?_
    obtain ⟨fs_x2, x2, ha_x2, hv_x2, hf⟩ := hf
    refine r_get (Cn := RX2) (Tt := TX2) (N := 9) (n := 1) rfl uw_X2 (Nat.le_of_ble_eq_true rfl) wd_4_22 ha_x2 hv_x2 dX8_turnedHalfRound_39 ?_
    refine r_aload_n (j := 1) rfl rfl dX8_turnedHalfRound_42 ?_
    obtain ⟨fs_x3, x3, ha_x3, hv_x3, hf⟩ := hf
    refine r_get (Cn := RX2) (Tt := TX2) (N := 9) (n := 1) rfl uw_X2 (Nat.le_of_ble_eq_true rfl) wd_4_22 ha_x3 hv_x3 dX8_turnedHalfRound_43 ?_
    refine r_acmpne (o := (some x2)) (o2 := (some x3)) (tgt := 73) (by decide) dX8_turnedHalfRound_46 (fun hc => ?_) (fun hc => ?_)
    · replace hf := hf.1 hc
      exact r_sub [1, 2, 3, 4, 5] rfl (b_X8_turnedHalfRound_73 hX24 hf)
    · replace hf := hf.2 hc
      refine r_aload (j := 0) rfl dX8_turnedHalfRound_49 ?_
      obtain ⟨fs_x4, x4, ha_x4, hv_x4, hf⟩ := hf
      refine r_get (Cn := RX2) (Tt := TX2) (N := 9) (n := 2) rfl uw_X2 (Nat.le_of_ble_eq_true rfl) wd_4_24 ha_x4 hv_x4 dX8_turnedHalfRound_51 ?_
      refine r_aload_n (j := 1) rfl rfl dX8_turnedHalfRound_54 ?_
      obtain ⟨fs_x5, x5, ha_x5, hv_x5, hf⟩ := hf
      refine r_get (Cn := RX2) (Tt := TX2) (N := 9) (n := 2) rfl uw_X2 (Nat.le_of_ble_eq_true rfl) wd_4_24 ha_x5 hv_x5 dX8_turnedHalfRound_55 ?_
      refine r_acmpne (o := (some x4)) (o2 := (some x5)) (tgt := 73) (by decide) dX8_turnedHalfRound_58 (fun hc => ?_) (fun hc => ?_)
      · replace hf := hf.1 hc
        exact r_sub [1, 2, 3, 4, 5] rfl (b_X8_turnedHalfRound_73 hX24 hf)
      · replace hf := hf.2 hc
        refine r_aload (j := 0) rfl dX8_turnedHalfRound_61 ?_
        obtain ⟨fs_x6, x6, ha_x6, hv_x6, hf⟩ := hf
        refine r_get (Cn := RX2) (Tt := TX2) (N := 9) (n := 6) rfl uw_X2 (Nat.le_of_ble_eq_true rfl) wd_4_32 ha_x6 hv_x6 dX8_turnedHalfRound_63 ?_
        refine r_iload_n (j := 2) rfl rfl dX8_turnedHalfRound_66 ?_
        refine r_icmpne (x := x6) (y := v2) (tgt := 73) (by decide) dX8_turnedHalfRound_67 (fun hc => ?_) (fun hc => ?_)
        · replace hf := hf.1 hc
          exact r_sub [1, 2, 3, 4, 5] rfl (b_X8_turnedHalfRound_73 hX24 hf)
        · replace hf := hf.2 hc
          refine r_aload (j := 0) rfl dX8_turnedHalfRound_70 ?_
          exact r_areturn rfl (Or.inl ⟨_, rfl⟩) dX8_turnedHalfRound_72 rfl ⟨_, rfl, hf⟩
def Z_X8_turnedHalfRound_24 (l : Launch) (G : GG) (d : Nat) (K : Option Nat → Hp → Prop) : Nat → Nat → Int32 → Nat → Int32 → Int32 → Hp → Prop
  | 0 => fun _ _ _ _ _ _ => False
  | n + 1 => fun v1 v2 v3 v4 v5 σ => F_X8_turnedHalfRound_24 l G d (Z_X8_turnedHalfRound_24 l G d K n) v1 v2 v3 v4 v5 σ K
theorem z_X8_turnedHalfRound_24 {l : Launch} {G : GG} {d : Nat} {K : Option Nat → Hp → Prop} : ∀ (n : Nat) v1 v2 v3 v4 v5 σ, Z_X8_turnedHalfRound_24 l G d K n v1 v2 v3 v4 v5 σ → Wd l G (d + 1) "CoinsLaid$Table" yX8_turnedHalfRound cX8_turnedHalfRound 7 (some (FieldType.object "CoinsLaid$Lay")) 24 [(1, aR (some v1)), (2, aI v2), (3, aR (some v3)), (4, aI v4), (5, aI v5)] [] σ 0 0 (xM (QR K)) := by
  intro n
  induction n with
  | zero => intro v1 v2 v3 v4 v5 σ hf; exact hf.elim
  | succ n ih => intro v1 v2 v3 v4 v5 σ hf; exact b_X8_turnedHalfRound_24 ih hf
def F_X8_turnedHalfRound (l : Launch) (G : GG) (d : Nat) (v0 : Nat) (v1 : Nat) (σ : Hp) (K : Option Nat → Hp → Prop) : Prop :=
  fN σ v1 2 2 fun x7 =>
  fI σ v1 2 6 fun x8 =>
  C_X0_turnedHalfRound l G d x7 x8 σ fun r10 σ9 =>
  fN σ9 v0 8 8 fun x11 =>
  aL σ9 x11 fun x12 =>
  ∃ n, Z_X8_turnedHalfRound_24 l G d K n v1 r10 x11 x12 0 σ9
set_option maxRecDepth 100000 in
set_option maxHeartbeats 4000000 in
theorem b_X8_turnedHalfRound_0 {l : Launch} {G : GG} {d : Nat} {v0 : Nat} {v1 : Nat} {σ : Hp} {K : Option Nat → Hp → Prop} (hf : F_X8_turnedHalfRound l G d v0 v1 σ K) : Wd l G (d + 1) "CoinsLaid$Table" yX8_turnedHalfRound cX8_turnedHalfRound 7 (some (FieldType.object "CoinsLaid$Lay")) 0 [(0, aR (some v0)), (1, aR (some v1))] [] σ 0 0 (xM (QR K)) := by
  unfold F_X8_turnedHalfRound at hf
  refine r_aload_n (j := 1) rfl rfl dX8_turnedHalfRound_0 ?_
  obtain ⟨fs_x7, x7, ha_x7, hv_x7, hf⟩ := hf
  refine r_get (Cn := RX2) (Tt := TX2) (N := 9) (n := 2) rfl uw_X2 (Nat.le_of_ble_eq_true rfl) wd_4_24 ha_x7 hv_x7 dX8_turnedHalfRound_1 ?_
  refine r_aload_n (j := 1) rfl rfl dX8_turnedHalfRound_4 ?_
  obtain ⟨fs_x8, x8, ha_x8, hv_x8, hf⟩ := hf
  refine r_get (Cn := RX2) (Tt := TX2) (N := 9) (n := 6) rfl uw_X2 (Nat.le_of_ble_eq_true rfl) wd_4_32 ha_x8 hv_x8 dX8_turnedHalfRound_5 ?_
  try unfold C_X0_turnedHalfRound at hf
  obtain ⟨⟨fs_r10, ha_r10⟩, hf⟩ := hf
  refine r_invVI (t := 0) (As := [aI x8]) (dz := d) (mz := 0) (sz := 0) rfl wd_4_66 wd_4_67 wd_4_68 cf_X0_turnedHalfRound (Nat.le_refl _) (Nat.zero_le _) (Nat.zero_le _) (cat_ok (Nat.le_of_ble_eq_true rfl)) rfl rfl ha_r10 dX8_turnedHalfRound_8 hf (fun r10 σ9 hk => ?_)
  replace hf := hk
  clear hk
  refine r_istore_n (L' := [(2, aI r10), (0, aR (some v0)), (1, aR (some v1))]) rfl rfl (Nat.le_of_ble_eq_true rfl) dX8_turnedHalfRound_11 ?_
  refine r_aload_n (j := 1) rfl rfl dX8_turnedHalfRound_12 ?_
  obtain ⟨fs_x11, x11, ha_x11, hv_x11, hf⟩ := hf
  refine r_get (Cn := RX8) (Tt := TX8) (N := 9) (n := 8) rfl uw_X8 (Nat.le_of_ble_eq_true rfl) wd_2_79 ha_x11 hv_x11 dX8_turnedHalfRound_13 ?_
  refine r_astore_n (L' := [(3, aR (some x11)), (2, aI r10), (0, aR (some v0)), (1, aR (some v1))]) rfl rfl (Nat.le_of_ble_eq_true rfl) dX8_turnedHalfRound_16 ?_
  refine r_aload_n (j := 0) rfl rfl dX8_turnedHalfRound_17 ?_
  obtain ⟨t_x12, N_x12, f_x12, ha_x12, hf⟩ := hf
  refine r_alen ha_x12 dX8_turnedHalfRound_18 ?_
  generalize nI N_x12 = x12 at hf ⊢
  refine r_istore (L' := [(4, aI x12), (3, aR (some x11)), (2, aI r10), (0, aR (some v0)), (1, aR (some v1))]) rfl (Nat.le_of_ble_eq_true rfl) dX8_turnedHalfRound_19 ?_
  refine r_iconst (v := 0) (by decide) dX8_turnedHalfRound_21 ?_
  refine r_istore (L' := [(5, aI 0), (4, aI x12), (3, aR (some x11)), (2, aI r10), (0, aR (some v0)), (1, aR (some v1))]) rfl (Nat.le_of_ble_eq_true rfl) dX8_turnedHalfRound_22 ?_
  obtain ⟨n, hf⟩ := hf
  exact r_sub [5, 3, 2, 1, 0] rfl (z_X8_turnedHalfRound_24 n _ _ _ _ _ _ hf)
theorem m_X8_turnedHalfRound {l : Launch} {G : GG} {d : Nat} {v0 : Nat} {v1 : Nat} {σ : Hp} {K : Option Nat → Hp → Prop} (hr : rv σ v0 8) (hf : F_X8_turnedHalfRound l G d v0 v1 σ K) : C_X8_turnedHalfRound l G (d + 1) v0 v1 σ K := ⟨hr, Sp.of (by decide) (Nat.le_of_ble_eq_true rfl) (b_X8_turnedHalfRound_0 hf) rfl⟩
def F_X8_layNumbered_23 (l : Launch) (G : GG) (d : Nat) (s0 : Option Nat) (σ : Hp) (K : Option Nat → Hp → Prop) : Prop :=
  K s0 σ
set_option maxRecDepth 100000 in
set_option maxHeartbeats 4000000 in
theorem b_X8_layNumbered_23 {l : Launch} {G : GG} {d : Nat} {s0 : Option Nat} {σ : Hp} {K : Option Nat → Hp → Prop} (hf : F_X8_layNumbered_23 l G d s0 σ K) : Wd l G (d + 1) "CoinsLaid$Table" yX8_layNumbered cX8_layNumbered 2 (some (FieldType.object "CoinsLaid$Lay")) 23 [] [aR s0] σ 0 0 (xM (QR K)) := by
  unfold F_X8_layNumbered_23 at hf
  exact r_areturn rfl (Or.inl ⟨_, rfl⟩) dX8_layNumbered_23 rfl ⟨_, rfl, hf⟩
def F_X8_layNumbered_22 (l : Launch) (G : GG) (d : Nat) (σ : Hp) (K : Option Nat → Hp → Prop) : Prop :=
  F_X8_layNumbered_23 l G d none σ K
set_option maxRecDepth 100000 in
set_option maxHeartbeats 4000000 in
theorem b_X8_layNumbered_22 {l : Launch} {G : GG} {d : Nat} {σ : Hp} {K : Option Nat → Hp → Prop} (hf : F_X8_layNumbered_22 l G d  σ K) : Wd l G (d + 1) "CoinsLaid$Table" yX8_layNumbered cX8_layNumbered 2 (some (FieldType.object "CoinsLaid$Lay")) 22 [] [] σ 0 0 (xM (QR K)) := by
  unfold F_X8_layNumbered_22 at hf
  refine r_null dX8_layNumbered_22 ?_
  exact r_sub [] rfl (b_X8_layNumbered_23 hf)
def F_X8_layNumbered (l : Launch) (G : GG) (d : Nat) (v0 : Nat) (v1 : Int32) (σ : Hp) (K : Option Nat → Hp → Prop) : Prop :=
  ((v1 : Int32) < 0 →
    F_X8_layNumbered_22 l G d σ K) ∧
  (¬ (v1 : Int32) < 0 →
    fN σ v0 8 8 fun x1 =>
    aL σ x1 fun x2 =>
    ((x2 : Int32) ≤ (v1 : Int32) →
      F_X8_layNumbered_22 l G d σ K) ∧
    (¬ (x2 : Int32) ≤ (v1 : Int32) →
      fN σ v0 8 8 fun x3 =>
      gN 3 σ x3 v1 fun x4 =>
      F_X8_layNumbered_23 l G d (some x4) σ K))
set_option maxRecDepth 100000 in
set_option maxHeartbeats 4000000 in
theorem b_X8_layNumbered_0 {l : Launch} {G : GG} {d : Nat} {v0 : Nat} {v1 : Int32} {σ : Hp} {K : Option Nat → Hp → Prop} (hf : F_X8_layNumbered l G d v0 v1 σ K) : Wd l G (d + 1) "CoinsLaid$Table" yX8_layNumbered cX8_layNumbered 2 (some (FieldType.object "CoinsLaid$Lay")) 0 [(0, aR (some v0)), (1, aI v1)] [] σ 0 0 (xM (QR K)) := by
  unfold F_X8_layNumbered at hf
  refine r_iload_n (j := 1) rfl rfl dX8_layNumbered_0 ?_
  refine r_iflt (x := v1) (tgt := 22) (by decide) dX8_layNumbered_1 (fun hc => ?_) (fun hc => ?_)
  · replace hf := hf.1 hc
    exact r_sub [] rfl (b_X8_layNumbered_22 hf)
  · replace hf := hf.2 hc
    refine r_iload_n (j := 1) rfl rfl dX8_layNumbered_4 ?_
    refine r_aload_n (j := 0) rfl rfl dX8_layNumbered_5 ?_
    obtain ⟨fs_x1, x1, ha_x1, hv_x1, hf⟩ := hf
    refine r_get (Cn := RX8) (Tt := TX8) (N := 9) (n := 8) rfl uw_X8 (Nat.le_of_ble_eq_true rfl) wd_2_79 ha_x1 hv_x1 dX8_layNumbered_6 ?_
    obtain ⟨t_x2, N_x2, f_x2, ha_x2, hf⟩ := hf
    refine r_alen ha_x2 dX8_layNumbered_9 ?_
    generalize nI N_x2 = x2 at hf ⊢
    refine r_icmpge (x := v1) (y := x2) (tgt := 22) (by decide) dX8_layNumbered_10 (fun hc => ?_) (fun hc => ?_)
    · replace hf := hf.1 hc
      exact r_sub [] rfl (b_X8_layNumbered_22 hf)
    · replace hf := hf.2 hc
      refine r_aload_n (j := 0) rfl rfl dX8_layNumbered_13 ?_
      obtain ⟨fs_x3, x3, ha_x3, hv_x3, hf⟩ := hf
      refine r_get (Cn := RX8) (Tt := TX8) (N := 9) (n := 8) rfl uw_X8 (Nat.le_of_ble_eq_true rfl) wd_2_79 ha_x3 hv_x3 dX8_layNumbered_14 ?_
      refine r_iload_n (j := 1) rfl rfl dX8_layNumbered_17 ?_
      obtain ⟨N_x4, f_x4, x4, ha_x4, hi_x4, hv_x4, hf⟩ := hf
      refine r_aald3 ha_x4 hi_x4 dX8_layNumbered_18 ?_
      rw [hv_x4]
      refine r_goto (tgt := 23) (by decide) dX8_layNumbered_19 ?_
      exact r_sub [] rfl (b_X8_layNumbered_23 hf)
theorem m_X8_layNumbered {l : Launch} {G : GG} {d : Nat} {v0 : Nat} {v1 : Int32} {σ : Hp} {K : Option Nat → Hp → Prop} (hr : rv σ v0 8) (hf : F_X8_layNumbered l G d v0 v1 σ K) : C_X8_layNumbered l G (d + 1) v0 v1 σ K := ⟨hr, Sp.of (by decide) (Nat.le_of_ble_eq_true rfl) (b_X8_layNumbered_0 hf) rfl⟩
def F_X8_layAtPlace_68 (l : Launch) (G : GG) (d : Nat) (X14 : Int32 → Int32 → Int32 → Int32 → Int32 → Nat → Int32 → Int32 → Hp → Prop) (v1 : Int32) (v2 : Int32) (v3 : Int32) (v4 : Int32) (v5 : Int32) (v6 : Nat) (v7 : Int32) (v8 : Int32) (σ : Hp) (K : Option Nat → Hp → Prop) : Prop :=
  X14 v1 v2 v3 v4 v5 v6 v7 (v8 + 1) σ
set_option maxRecDepth 100000 in
set_option maxHeartbeats 4000000 in
theorem b_X8_layAtPlace_68 {l : Launch} {G : GG} {d : Nat} {X14 : Int32 → Int32 → Int32 → Int32 → Int32 → Nat → Int32 → Int32 → Hp → Prop} {v1 : Int32} {v2 : Int32} {v3 : Int32} {v4 : Int32} {v5 : Int32} {v6 : Nat} {v7 : Int32} {v8 : Int32} {σ : Hp} {K : Option Nat → Hp → Prop} (hX14 : ∀ v1 v2 v3 v4 v5 v6 v7 v8 σ, X14 v1 v2 v3 v4 v5 v6 v7 v8 σ → Wd l G (d + 1) "CoinsLaid$Table" yX8_layAtPlace cX8_layAtPlace 10 (some (FieldType.object "CoinsLaid$Lay")) 14 [(1, aI v1), (2, aI v2), (3, aI v3), (4, aI v4), (5, aI v5), (6, aR (some v6)), (7, aI v7), (8, aI v8)] [] σ 0 0 (xM (QR K))) (hf : F_X8_layAtPlace_68 l G d X14 v1 v2 v3 v4 v5 v6 v7 v8 σ K) : Wd l G (d + 1) "CoinsLaid$Table" yX8_layAtPlace cX8_layAtPlace 10 (some (FieldType.object "CoinsLaid$Lay")) 68 [(1, aI v1), (2, aI v2), (3, aI v3), (4, aI v4), (5, aI v5), (6, aR (some v6)), (7, aI v7), (8, aI v8)] [] σ 0 0 (xM (QR K)) := by
  unfold F_X8_layAtPlace_68 at hf
  refine r_iinc (j := 7) (w := (v8 + 1)) (L' := [(8, aI (v8 + 1)), (1, aI v1), (2, aI v2), (3, aI v3), (4, aI v4), (5, aI v5), (6, aR (some v6)), (7, aI v7)]) rfl (by rfl) rfl (Nat.le_of_ble_eq_true rfl) dX8_layAtPlace_68 ?_
  refine r_goto (tgt := 14) (by decide) dX8_layAtPlace_71 ?_
  exact r_sub [1, 2, 3, 4, 5, 6, 7, 0] rfl (hX14 _ _ _ _ _ _ _ _ _ hf)
def F_X8_layAtPlace_14 (l : Launch) (G : GG) (d : Nat) (X14 : Int32 → Int32 → Int32 → Int32 → Int32 → Nat → Int32 → Int32 → Hp → Prop) (v1 : Int32) (v2 : Int32) (v3 : Int32) (v4 : Int32) (v5 : Int32) (v6 : Nat) (v7 : Int32) (v8 : Int32) (σ : Hp) (K : Option Nat → Hp → Prop) : Prop :=
  ((v7 : Int32) ≤ (v8 : Int32) →
    K none σ) ∧
  (¬ (v7 : Int32) ≤ (v8 : Int32) →
    gN 3 σ v6 v8 fun x1 =>
    fN σ x1 2 1 fun x2 =>
    fI σ x2 5 0 fun x3 =>
    (¬ (x3 : Int32) = (v1 : Int32) →
      F_X8_layAtPlace_68 l G d X14 v1 v2 v3 v4 v5 v6 v7 v8 σ K) ∧
    ((x3 : Int32) = (v1 : Int32) →
      fN σ x1 2 2 fun x4 =>
      fI σ x4 0 0 fun x5 =>
      (¬ (x5 : Int32) = (v2 : Int32) →
        F_X8_layAtPlace_68 l G d X14 v1 v2 v3 v4 v5 v6 v7 v8 σ K) ∧
      ((x5 : Int32) = (v2 : Int32) →
        C_X2_isAt l G d x1 v3 v4 v5 σ fun r7 σ6 =>
        (r7 = false →
          F_X8_layAtPlace_68 l G d X14 v1 v2 v3 v4 v5 v6 v7 v8 σ6 K) ∧
        (r7 = true →
          K (some x1) σ6))))
set_option maxRecDepth 100000 in
set_option maxHeartbeats 4000000 in
theorem b_X8_layAtPlace_14 {l : Launch} {G : GG} {d : Nat} {X14 : Int32 → Int32 → Int32 → Int32 → Int32 → Nat → Int32 → Int32 → Hp → Prop} {v1 : Int32} {v2 : Int32} {v3 : Int32} {v4 : Int32} {v5 : Int32} {v6 : Nat} {v7 : Int32} {v8 : Int32} {σ : Hp} {K : Option Nat → Hp → Prop} (hX14 : ∀ v1 v2 v3 v4 v5 v6 v7 v8 σ, X14 v1 v2 v3 v4 v5 v6 v7 v8 σ → Wd l G (d + 1) "CoinsLaid$Table" yX8_layAtPlace cX8_layAtPlace 10 (some (FieldType.object "CoinsLaid$Lay")) 14 [(1, aI v1), (2, aI v2), (3, aI v3), (4, aI v4), (5, aI v5), (6, aR (some v6)), (7, aI v7), (8, aI v8)] [] σ 0 0 (xM (QR K))) (hf : F_X8_layAtPlace_14 l G d X14 v1 v2 v3 v4 v5 v6 v7 v8 σ K) : Wd l G (d + 1) "CoinsLaid$Table" yX8_layAtPlace cX8_layAtPlace 10 (some (FieldType.object "CoinsLaid$Lay")) 14 [(1, aI v1), (2, aI v2), (3, aI v3), (4, aI v4), (5, aI v5), (6, aR (some v6)), (7, aI v7), (8, aI v8)] [] σ 0 0 (xM (QR K)) := by
  unfold F_X8_layAtPlace_14 at hf
  refine r_iload (j := 7) rfl dX8_layAtPlace_14 ?_
  refine r_iload (j := 6) rfl dX8_layAtPlace_16 ?_
  refine r_icmpge (x := v8) (y := v7) (tgt := 74) (by decide) dX8_layAtPlace_18 (fun hc => ?_) (fun hc => ?_)
  · replace hf := hf.1 hc
    refine r_null dX8_layAtPlace_74 ?_
    exact r_areturn rfl (Or.inl ⟨_, rfl⟩) dX8_layAtPlace_75 rfl ⟨_, rfl, hf⟩
  · replace hf := hf.2 hc
    refine r_aload (j := 5) rfl dX8_layAtPlace_21 ?_
    refine r_iload (j := 7) rfl dX8_layAtPlace_23 ?_
    obtain ⟨N_x1, f_x1, x1, ha_x1, hi_x1, hv_x1, hf⟩ := hf
    refine r_aald3 ha_x1 hi_x1 dX8_layAtPlace_25 ?_
    rw [hv_x1]
    refine r_astore (L' := [(9, aR (some x1)), (1, aI v1), (2, aI v2), (3, aI v3), (4, aI v4), (5, aI v5), (6, aR (some v6)), (7, aI v7), (8, aI v8)]) rfl (Nat.le_of_ble_eq_true rfl) dX8_layAtPlace_26 ?_
    refine r_aload (j := 0) rfl dX8_layAtPlace_28 ?_
    obtain ⟨fs_x2, x2, ha_x2, hv_x2, hf⟩ := hf
    refine r_get (Cn := RX2) (Tt := TX2) (N := 9) (n := 1) rfl uw_X2 (Nat.le_of_ble_eq_true rfl) wd_4_22 ha_x2 hv_x2 dX8_layAtPlace_30 ?_
    obtain ⟨fs_x3, x3, ha_x3, hv_x3, hf⟩ := hf
    refine r_get (Cn := RX5) (Tt := TX5) (N := 7) (n := 0) rfl uw_X5 (Nat.le_of_ble_eq_true rfl) wd_3_185 ha_x3 hv_x3 dX8_layAtPlace_33 ?_
    refine r_iload_n (j := 1) rfl rfl dX8_layAtPlace_36 ?_
    refine r_icmpne (x := x3) (y := v1) (tgt := 68) (by decide) dX8_layAtPlace_37 (fun hc => ?_) (fun hc => ?_)
    · replace hf := hf.1 hc
      exact r_sub [1, 2, 3, 4, 5, 6, 7, 8] rfl (b_X8_layAtPlace_68 hX14 hf)
    · replace hf := hf.2 hc
      refine r_aload (j := 0) rfl dX8_layAtPlace_40 ?_
      obtain ⟨fs_x4, x4, ha_x4, hv_x4, hf⟩ := hf
      refine r_get (Cn := RX2) (Tt := TX2) (N := 9) (n := 2) rfl uw_X2 (Nat.le_of_ble_eq_true rfl) wd_4_24 ha_x4 hv_x4 dX8_layAtPlace_42 ?_
      obtain ⟨fs_x5, x5, ha_x5, hv_x5, hf⟩ := hf
      refine r_get (Cn := RX0) (Tt := TX0) (N := 5) (n := 0) rfl uw_X0 (Nat.le_of_ble_eq_true rfl) wd_3_57 ha_x5 hv_x5 dX8_layAtPlace_45 ?_
      refine r_iload_n (j := 2) rfl rfl dX8_layAtPlace_48 ?_
      refine r_icmpne (x := x5) (y := v2) (tgt := 68) (by decide) dX8_layAtPlace_49 (fun hc => ?_) (fun hc => ?_)
      · replace hf := hf.1 hc
        exact r_sub [1, 2, 3, 4, 5, 6, 7, 8] rfl (b_X8_layAtPlace_68 hX14 hf)
      · replace hf := hf.2 hc
        refine r_aload (j := 0) rfl dX8_layAtPlace_52 ?_
        refine r_iload_n (j := 3) rfl rfl dX8_layAtPlace_54 ?_
        refine r_iload (j := 4) rfl dX8_layAtPlace_55 ?_
        refine r_iload (j := 5) rfl dX8_layAtPlace_57 ?_
        try unfold C_X2_isAt at hf
        obtain ⟨⟨fs_r7, ha_r7⟩, hf⟩ := hf
        refine r_invVZ (t := 2) (As := [aI v3, aI v4, aI v5]) (dz := d) (mz := 0) (sz := 0) rfl wd_4_159 wd_4_160 wd_4_161 cf_X2_isAt (Nat.le_refl _) (Nat.zero_le _) (Nat.zero_le _) (cat_ok (Nat.le_of_ble_eq_true rfl)) rfl rfl ha_r7 dX8_layAtPlace_59 hf (fun r7 σ6 hk => ?_)
        replace hf := hk
        clear hk
        refine r_ifeqZ (b := r7) (tgt := 68) (by decide) dX8_layAtPlace_62 (fun hc => ?_) (fun hc => ?_)
        · replace hf := hf.1 hc
          exact r_sub [1, 2, 3, 4, 5, 6, 7, 8] rfl (b_X8_layAtPlace_68 hX14 hf)
        · replace hf := hf.2 hc
          refine r_aload (j := 0) rfl dX8_layAtPlace_65 ?_
          exact r_areturn rfl (Or.inl ⟨_, rfl⟩) dX8_layAtPlace_67 rfl ⟨_, rfl, hf⟩
def Z_X8_layAtPlace_14 (l : Launch) (G : GG) (d : Nat) (K : Option Nat → Hp → Prop) : Nat → Int32 → Int32 → Int32 → Int32 → Int32 → Nat → Int32 → Int32 → Hp → Prop
  | 0 => fun _ _ _ _ _ _ _ _ _ => False
  | n + 1 => fun v1 v2 v3 v4 v5 v6 v7 v8 σ => F_X8_layAtPlace_14 l G d (Z_X8_layAtPlace_14 l G d K n) v1 v2 v3 v4 v5 v6 v7 v8 σ K
theorem z_X8_layAtPlace_14 {l : Launch} {G : GG} {d : Nat} {K : Option Nat → Hp → Prop} : ∀ (n : Nat) v1 v2 v3 v4 v5 v6 v7 v8 σ, Z_X8_layAtPlace_14 l G d K n v1 v2 v3 v4 v5 v6 v7 v8 σ → Wd l G (d + 1) "CoinsLaid$Table" yX8_layAtPlace cX8_layAtPlace 10 (some (FieldType.object "CoinsLaid$Lay")) 14 [(1, aI v1), (2, aI v2), (3, aI v3), (4, aI v4), (5, aI v5), (6, aR (some v6)), (7, aI v7), (8, aI v8)] [] σ 0 0 (xM (QR K)) := by
  intro n
  induction n with
  | zero => intro v1 v2 v3 v4 v5 v6 v7 v8 σ hf; exact hf.elim
  | succ n ih => intro v1 v2 v3 v4 v5 v6 v7 v8 σ hf; exact b_X8_layAtPlace_14 ih hf
def F_X8_layAtPlace (l : Launch) (G : GG) (d : Nat) (v0 : Nat) (v1 : Int32) (v2 : Int32) (v3 : Int32) (v4 : Int32) (v5 : Int32) (σ : Hp) (K : Option Nat → Hp → Prop) : Prop :=
  fN σ v0 8 8 fun x8 =>
  aL σ x8 fun x9 =>
  ∃ n, Z_X8_layAtPlace_14 l G d K n v1 v2 v3 v4 v5 x8 x9 0 σ
set_option maxRecDepth 100000 in
set_option maxHeartbeats 4000000 in
theorem b_X8_layAtPlace_0 {l : Launch} {G : GG} {d : Nat} {v0 : Nat} {v1 : Int32} {v2 : Int32} {v3 : Int32} {v4 : Int32} {v5 : Int32} {σ : Hp} {K : Option Nat → Hp → Prop} (hf : F_X8_layAtPlace l G d v0 v1 v2 v3 v4 v5 σ K) : Wd l G (d + 1) "CoinsLaid$Table" yX8_layAtPlace cX8_layAtPlace 10 (some (FieldType.object "CoinsLaid$Lay")) 0 [(0, aR (some v0)), (1, aI v1), (2, aI v2), (3, aI v3), (4, aI v4), (5, aI v5)] [] σ 0 0 (xM (QR K)) := by
  unfold F_X8_layAtPlace at hf
  refine r_aload_n (j := 0) rfl rfl dX8_layAtPlace_0 ?_
  obtain ⟨fs_x8, x8, ha_x8, hv_x8, hf⟩ := hf
  refine r_get (Cn := RX8) (Tt := TX8) (N := 9) (n := 8) rfl uw_X8 (Nat.le_of_ble_eq_true rfl) wd_2_79 ha_x8 hv_x8 dX8_layAtPlace_1 ?_
  refine r_astore (L' := [(6, aR (some x8)), (0, aR (some v0)), (1, aI v1), (2, aI v2), (3, aI v3), (4, aI v4), (5, aI v5)]) rfl (Nat.le_of_ble_eq_true rfl) dX8_layAtPlace_4 ?_
  refine r_aload (j := 0) rfl dX8_layAtPlace_6 ?_
  obtain ⟨t_x9, N_x9, f_x9, ha_x9, hf⟩ := hf
  refine r_alen ha_x9 dX8_layAtPlace_8 ?_
  generalize nI N_x9 = x9 at hf ⊢
  refine r_istore (L' := [(7, aI x9), (6, aR (some x8)), (0, aR (some v0)), (1, aI v1), (2, aI v2), (3, aI v3), (4, aI v4), (5, aI v5)]) rfl (Nat.le_of_ble_eq_true rfl) dX8_layAtPlace_9 ?_
  refine r_iconst (v := 0) (by decide) dX8_layAtPlace_11 ?_
  refine r_istore (L' := [(8, aI 0), (7, aI x9), (6, aR (some x8)), (0, aR (some v0)), (1, aI v1), (2, aI v2), (3, aI v3), (4, aI v4), (5, aI v5)]) rfl (Nat.le_of_ble_eq_true rfl) dX8_layAtPlace_12 ?_
  obtain ⟨n, hf⟩ := hf
  exact r_sub [4, 5, 6, 7, 8, 2, 1, 0] rfl (z_X8_layAtPlace_14 n _ _ _ _ _ _ _ _ _ hf)
theorem m_X8_layAtPlace {l : Launch} {G : GG} {d : Nat} {v0 : Nat} {v1 : Int32} {v2 : Int32} {v3 : Int32} {v4 : Int32} {v5 : Int32} {σ : Hp} {K : Option Nat → Hp → Prop} (hr : rv σ v0 8) (hf : F_X8_layAtPlace l G d v0 v1 v2 v3 v4 v5 σ K) : C_X8_layAtPlace l G (d + 1) v0 v1 v2 v3 v4 v5 σ K := ⟨hr, Sp.of (by decide) (Nat.le_of_ble_eq_true rfl) (b_X8_layAtPlace_0 hf) rfl⟩
def F_X8_countThatMay_43 (l : Launch) (G : GG) (d : Nat) (X16 : Int32 → Int32 → Int32 → Nat → Int32 → Int32 → Hp → Prop) (v1 : Int32) (v2 : Int32) (v3 : Int32) (v4 : Nat) (v5 : Int32) (v6 : Int32) (σ : Hp) (K : Int32 → Hp → Prop) : Prop :=
  X16 v1 v2 v3 v4 v5 (v6 + 1) σ
set_option maxRecDepth 100000 in
set_option maxHeartbeats 4000000 in
theorem b_X8_countThatMay_43 {l : Launch} {G : GG} {d : Nat} {X16 : Int32 → Int32 → Int32 → Nat → Int32 → Int32 → Hp → Prop} {v1 : Int32} {v2 : Int32} {v3 : Int32} {v4 : Nat} {v5 : Int32} {v6 : Int32} {σ : Hp} {K : Int32 → Hp → Prop} (hX16 : ∀ v1 v2 v3 v4 v5 v6 σ, X16 v1 v2 v3 v4 v5 v6 σ → Wd l G (d + 1) "CoinsLaid$Table" yX8_countThatMay cX8_countThatMay 8 (some FieldType.int) 16 [(1, aI v1), (2, aI v2), (3, aI v3), (4, aR (some v4)), (5, aI v5), (6, aI v6)] [] σ 0 0 (xM (QI K))) (hf : F_X8_countThatMay_43 l G d X16 v1 v2 v3 v4 v5 v6 σ K) : Wd l G (d + 1) "CoinsLaid$Table" yX8_countThatMay cX8_countThatMay 8 (some FieldType.int) 43 [(1, aI v1), (2, aI v2), (3, aI v3), (4, aR (some v4)), (5, aI v5), (6, aI v6)] [] σ 0 0 (xM (QI K)) := by
  unfold F_X8_countThatMay_43 at hf
  refine r_iinc (j := 5) (w := (v6 + 1)) (L' := [(6, aI (v6 + 1)), (1, aI v1), (2, aI v2), (3, aI v3), (4, aR (some v4)), (5, aI v5)]) rfl (by rfl) rfl (Nat.le_of_ble_eq_true rfl) dX8_countThatMay_43 ?_
  refine r_goto (tgt := 16) (by decide) dX8_countThatMay_46 ?_
  exact r_sub [1, 2, 3, 4, 5, 0] rfl (hX16 _ _ _ _ _ _ _ hf)
def F_X8_countThatMay_16 (l : Launch) (G : GG) (d : Nat) (X16 : Int32 → Int32 → Int32 → Nat → Int32 → Int32 → Hp → Prop) (v1 : Int32) (v2 : Int32) (v3 : Int32) (v4 : Nat) (v5 : Int32) (v6 : Int32) (σ : Hp) (K : Int32 → Hp → Prop) : Prop :=
  ((v5 : Int32) ≤ (v6 : Int32) →
    K v3 σ) ∧
  (¬ (v5 : Int32) ≤ (v6 : Int32) →
    gN 3 σ v4 v6 fun x1 =>
    C_X2_mayBe l G d x1 v1 v2 σ fun r3 σ2 =>
    (r3 = false →
      F_X8_countThatMay_43 l G d X16 v1 v2 v3 v4 v5 v6 σ2 K) ∧
    (r3 = true →
      F_X8_countThatMay_43 l G d X16 v1 v2 (v3 + 1) v4 v5 v6 σ2 K))
set_option maxRecDepth 100000 in
set_option maxHeartbeats 4000000 in
theorem b_X8_countThatMay_16 {l : Launch} {G : GG} {d : Nat} {X16 : Int32 → Int32 → Int32 → Nat → Int32 → Int32 → Hp → Prop} {v1 : Int32} {v2 : Int32} {v3 : Int32} {v4 : Nat} {v5 : Int32} {v6 : Int32} {σ : Hp} {K : Int32 → Hp → Prop} (hX16 : ∀ v1 v2 v3 v4 v5 v6 σ, X16 v1 v2 v3 v4 v5 v6 σ → Wd l G (d + 1) "CoinsLaid$Table" yX8_countThatMay cX8_countThatMay 8 (some FieldType.int) 16 [(1, aI v1), (2, aI v2), (3, aI v3), (4, aR (some v4)), (5, aI v5), (6, aI v6)] [] σ 0 0 (xM (QI K))) (hf : F_X8_countThatMay_16 l G d X16 v1 v2 v3 v4 v5 v6 σ K) : Wd l G (d + 1) "CoinsLaid$Table" yX8_countThatMay cX8_countThatMay 8 (some FieldType.int) 16 [(1, aI v1), (2, aI v2), (3, aI v3), (4, aR (some v4)), (5, aI v5), (6, aI v6)] [] σ 0 0 (xM (QI K)) := by
  unfold F_X8_countThatMay_16 at hf
  refine r_iload (j := 5) rfl dX8_countThatMay_16 ?_
  refine r_iload (j := 4) rfl dX8_countThatMay_18 ?_
  refine r_icmpge (x := v6) (y := v5) (tgt := 49) (by decide) dX8_countThatMay_20 (fun hc => ?_) (fun hc => ?_)
  · replace hf := hf.1 hc
    refine r_iload_n (j := 2) rfl rfl dX8_countThatMay_49 ?_
    exact r_ireturn rfl dX8_countThatMay_50 rfl ⟨_, rfl, hf⟩
  · replace hf := hf.2 hc
    refine r_aload (j := 3) rfl dX8_countThatMay_23 ?_
    refine r_iload (j := 5) rfl dX8_countThatMay_25 ?_
    obtain ⟨N_x1, f_x1, x1, ha_x1, hi_x1, hv_x1, hf⟩ := hf
    refine r_aald3 ha_x1 hi_x1 dX8_countThatMay_27 ?_
    rw [hv_x1]
    refine r_astore (L' := [(7, aR (some x1)), (1, aI v1), (2, aI v2), (3, aI v3), (4, aR (some v4)), (5, aI v5), (6, aI v6)]) rfl (Nat.le_of_ble_eq_true rfl) dX8_countThatMay_28 ?_
    refine r_aload (j := 0) rfl dX8_countThatMay_30 ?_
    refine r_iload_n (j := 1) rfl rfl dX8_countThatMay_32 ?_
    refine r_iload_n (j := 2) rfl rfl dX8_countThatMay_33 ?_
    try unfold C_X2_mayBe at hf
    obtain ⟨⟨fs_r3, ha_r3⟩, hf⟩ := hf
    refine r_invVZ (t := 2) (As := [aI v1, aI v2]) (dz := d) (mz := 0) (sz := 0) rfl wd_4_180 wd_4_79 wd_4_80 cf_X2_mayBe (Nat.le_refl _) (Nat.zero_le _) (Nat.zero_le _) (cat_ok (Nat.le_of_ble_eq_true rfl)) rfl rfl ha_r3 dX8_countThatMay_34 hf (fun r3 σ2 hk => ?_)
    replace hf := hk
    clear hk
    refine r_ifeqZ (b := r3) (tgt := 43) (by decide) dX8_countThatMay_37 (fun hc => ?_) (fun hc => ?_)
    · replace hf := hf.1 hc
      exact r_sub [1, 2, 3, 4, 5, 6] rfl (b_X8_countThatMay_43 hX16 hf)
    · replace hf := hf.2 hc
      refine r_iinc (j := 3) (w := (v3 + 1)) (L' := [(3, aI (v3 + 1)), (7, aR (some x1)), (1, aI v1), (2, aI v2), (4, aR (some v4)), (5, aI v5), (6, aI v6)]) rfl (by rfl) rfl (Nat.le_of_ble_eq_true rfl) dX8_countThatMay_40 ?_
      exact r_sub [2, 3, 0, 4, 5, 6] rfl (b_X8_countThatMay_43 hX16 hf)
def Z_X8_countThatMay_16 (l : Launch) (G : GG) (d : Nat) (K : Int32 → Hp → Prop) : Nat → Int32 → Int32 → Int32 → Nat → Int32 → Int32 → Hp → Prop
  | 0 => fun _ _ _ _ _ _ _ => False
  | n + 1 => fun v1 v2 v3 v4 v5 v6 σ => F_X8_countThatMay_16 l G d (Z_X8_countThatMay_16 l G d K n) v1 v2 v3 v4 v5 v6 σ K
theorem z_X8_countThatMay_16 {l : Launch} {G : GG} {d : Nat} {K : Int32 → Hp → Prop} : ∀ (n : Nat) v1 v2 v3 v4 v5 v6 σ, Z_X8_countThatMay_16 l G d K n v1 v2 v3 v4 v5 v6 σ → Wd l G (d + 1) "CoinsLaid$Table" yX8_countThatMay cX8_countThatMay 8 (some FieldType.int) 16 [(1, aI v1), (2, aI v2), (3, aI v3), (4, aR (some v4)), (5, aI v5), (6, aI v6)] [] σ 0 0 (xM (QI K)) := by
  intro n
  induction n with
  | zero => intro v1 v2 v3 v4 v5 v6 σ hf; exact hf.elim
  | succ n ih => intro v1 v2 v3 v4 v5 v6 σ hf; exact b_X8_countThatMay_16 ih hf
def F_X8_countThatMay (l : Launch) (G : GG) (d : Nat) (v0 : Nat) (v1 : Int32) (v2 : Int32) (σ : Hp) (K : Int32 → Hp → Prop) : Prop :=
  fN σ v0 8 8 fun x4 =>
  aL σ x4 fun x5 =>
  ∃ n, Z_X8_countThatMay_16 l G d K n v1 v2 0 x4 x5 0 σ
set_option maxRecDepth 100000 in
set_option maxHeartbeats 4000000 in
theorem b_X8_countThatMay_0 {l : Launch} {G : GG} {d : Nat} {v0 : Nat} {v1 : Int32} {v2 : Int32} {σ : Hp} {K : Int32 → Hp → Prop} (hf : F_X8_countThatMay l G d v0 v1 v2 σ K) : Wd l G (d + 1) "CoinsLaid$Table" yX8_countThatMay cX8_countThatMay 8 (some FieldType.int) 0 [(0, aR (some v0)), (1, aI v1), (2, aI v2)] [] σ 0 0 (xM (QI K)) := by
  unfold F_X8_countThatMay at hf
  refine r_iconst (v := 0) (by decide) dX8_countThatMay_0 ?_
  refine r_istore_n (L' := [(3, aI 0), (0, aR (some v0)), (1, aI v1), (2, aI v2)]) rfl rfl (Nat.le_of_ble_eq_true rfl) dX8_countThatMay_1 ?_
  refine r_aload_n (j := 1) rfl rfl dX8_countThatMay_2 ?_
  obtain ⟨fs_x4, x4, ha_x4, hv_x4, hf⟩ := hf
  refine r_get (Cn := RX8) (Tt := TX8) (N := 9) (n := 8) rfl uw_X8 (Nat.le_of_ble_eq_true rfl) wd_2_79 ha_x4 hv_x4 dX8_countThatMay_3 ?_
  refine r_astore (L' := [(4, aR (some x4)), (3, aI 0), (0, aR (some v0)), (1, aI v1), (2, aI v2)]) rfl (Nat.le_of_ble_eq_true rfl) dX8_countThatMay_6 ?_
  refine r_aload (j := 0) rfl dX8_countThatMay_8 ?_
  obtain ⟨t_x5, N_x5, f_x5, ha_x5, hf⟩ := hf
  refine r_alen ha_x5 dX8_countThatMay_10 ?_
  generalize nI N_x5 = x5 at hf ⊢
  refine r_istore (L' := [(5, aI x5), (4, aR (some x4)), (3, aI 0), (0, aR (some v0)), (1, aI v1), (2, aI v2)]) rfl (Nat.le_of_ble_eq_true rfl) dX8_countThatMay_11 ?_
  refine r_iconst (v := 0) (by decide) dX8_countThatMay_13 ?_
  refine r_istore (L' := [(6, aI 0), (5, aI x5), (4, aR (some x4)), (3, aI 0), (0, aR (some v0)), (1, aI v1), (2, aI v2)]) rfl (Nat.le_of_ble_eq_true rfl) dX8_countThatMay_14 ?_
  obtain ⟨n, hf⟩ := hf
  exact r_sub [5, 6, 3, 2, 1, 0] rfl (z_X8_countThatMay_16 n _ _ _ _ _ _ _ hf)
theorem m_X8_countThatMay {l : Launch} {G : GG} {d : Nat} {v0 : Nat} {v1 : Int32} {v2 : Int32} {σ : Hp} {K : Int32 → Hp → Prop} (hr : rv σ v0 8) (hf : F_X8_countThatMay l G d v0 v1 v2 σ K) : C_X8_countThatMay l G (d + 1) v0 v1 v2 σ K := ⟨hr, Sp.of (by decide) (Nat.le_of_ble_eq_true rfl) (b_X8_countThatMay_0 hf) rfl⟩
def F_X8_thatMay_52 (l : Launch) (G : GG) (d : Nat) (X17 : Int32 → Int32 → Int32 → Nat → Int32 → Int32 → Hp → Prop) (v1 : Int32) (v2 : Int32) (v4 : Int32) (v5 : Nat) (v6 : Int32) (v7 : Int32) (σ : Hp) (K : Option Nat → Hp → Prop) : Prop :=
  X17 v1 v2 v4 v5 v6 (v7 + 1) σ
set_option maxRecDepth 100000 in
set_option maxHeartbeats 4000000 in
theorem b_X8_thatMay_52 {l : Launch} {G : GG} {d : Nat} {X17 : Int32 → Int32 → Int32 → Nat → Int32 → Int32 → Hp → Prop} {v1 : Int32} {v2 : Int32} {v4 : Int32} {v5 : Nat} {v6 : Int32} {v7 : Int32} {σ : Hp} {K : Option Nat → Hp → Prop} (hX17 : ∀ v1 v2 v4 v5 v6 v7 σ, X17 v1 v2 v4 v5 v6 v7 σ → Wd l G (d + 1) "CoinsLaid$Table" yX8_thatMay cX8_thatMay 9 (some (FieldType.object "CoinsLaid$Lay")) 17 [(1, aI v1), (2, aI v2), (4, aI v4), (5, aR (some v5)), (6, aI v6), (7, aI v7)] [] σ 0 0 (xM (QR K))) (hf : F_X8_thatMay_52 l G d X17 v1 v2 v4 v5 v6 v7 σ K) : Wd l G (d + 1) "CoinsLaid$Table" yX8_thatMay cX8_thatMay 9 (some (FieldType.object "CoinsLaid$Lay")) 52 [(1, aI v1), (2, aI v2), (4, aI v4), (5, aR (some v5)), (6, aI v6), (7, aI v7)] [] σ 0 0 (xM (QR K)) := by
  unfold F_X8_thatMay_52 at hf
  refine r_iinc (j := 5) (w := (v7 + 1)) (L' := [(7, aI (v7 + 1)), (1, aI v1), (2, aI v2), (4, aI v4), (5, aR (some v5)), (6, aI v6)]) rfl (by rfl) rfl (Nat.le_of_ble_eq_true rfl) dX8_thatMay_52 ?_
  refine r_goto (tgt := 17) (by decide) dX8_thatMay_55 ?_
  exact r_sub [1, 2, 3, 4, 5, 0] rfl (hX17 _ _ _ _ _ _ _ hf)
def F_X8_thatMay_17 (l : Launch) (G : GG) (d : Nat) (X17 : Int32 → Int32 → Int32 → Nat → Int32 → Int32 → Hp → Prop) (v1 : Int32) (v2 : Int32) (v4 : Int32) (v5 : Nat) (v6 : Int32) (v7 : Int32) (σ : Hp) (K : Option Nat → Hp → Prop) : Prop :=
  ((v6 : Int32) ≤ (v7 : Int32) →
    K none σ) ∧
  (¬ (v6 : Int32) ≤ (v7 : Int32) →
    gN 3 σ v5 v7 fun x1 =>
    C_X2_mayBe l G d x1 v1 v2 σ fun r3 σ2 =>
    (r3 = false →
      F_X8_thatMay_52 l G d X17 v1 v2 v4 v5 v6 v7 σ2 K) ∧
    (r3 = true →
      (¬ (v4 : Int32) = 0 →
        F_X8_thatMay_52 l G d X17 v1 v2 (v4 + (-1)) v5 v6 v7 σ2 K) ∧
      ((v4 : Int32) = 0 →
        K (some x1) σ2)))
set_option maxRecDepth 100000 in
set_option maxHeartbeats 4000000 in
theorem b_X8_thatMay_17 {l : Launch} {G : GG} {d : Nat} {X17 : Int32 → Int32 → Int32 → Nat → Int32 → Int32 → Hp → Prop} {v1 : Int32} {v2 : Int32} {v4 : Int32} {v5 : Nat} {v6 : Int32} {v7 : Int32} {σ : Hp} {K : Option Nat → Hp → Prop} (hX17 : ∀ v1 v2 v4 v5 v6 v7 σ, X17 v1 v2 v4 v5 v6 v7 σ → Wd l G (d + 1) "CoinsLaid$Table" yX8_thatMay cX8_thatMay 9 (some (FieldType.object "CoinsLaid$Lay")) 17 [(1, aI v1), (2, aI v2), (4, aI v4), (5, aR (some v5)), (6, aI v6), (7, aI v7)] [] σ 0 0 (xM (QR K))) (hf : F_X8_thatMay_17 l G d X17 v1 v2 v4 v5 v6 v7 σ K) : Wd l G (d + 1) "CoinsLaid$Table" yX8_thatMay cX8_thatMay 9 (some (FieldType.object "CoinsLaid$Lay")) 17 [(1, aI v1), (2, aI v2), (4, aI v4), (5, aR (some v5)), (6, aI v6), (7, aI v7)] [] σ 0 0 (xM (QR K)) := by
  unfold F_X8_thatMay_17 at hf
  refine r_iload (j := 5) rfl dX8_thatMay_17 ?_
  refine r_iload (j := 4) rfl dX8_thatMay_19 ?_
  refine r_icmpge (x := v7) (y := v6) (tgt := 58) (by decide) dX8_thatMay_21 (fun hc => ?_) (fun hc => ?_)
  · replace hf := hf.1 hc
    refine r_null dX8_thatMay_58 ?_
    exact r_areturn rfl (Or.inl ⟨_, rfl⟩) dX8_thatMay_59 rfl ⟨_, rfl, hf⟩
  · replace hf := hf.2 hc
    refine r_aload (j := 3) rfl dX8_thatMay_24 ?_
    refine r_iload (j := 5) rfl dX8_thatMay_26 ?_
    obtain ⟨N_x1, f_x1, x1, ha_x1, hi_x1, hv_x1, hf⟩ := hf
    refine r_aald3 ha_x1 hi_x1 dX8_thatMay_28 ?_
    rw [hv_x1]
    refine r_astore (L' := [(8, aR (some x1)), (1, aI v1), (2, aI v2), (4, aI v4), (5, aR (some v5)), (6, aI v6), (7, aI v7)]) rfl (Nat.le_of_ble_eq_true rfl) dX8_thatMay_29 ?_
    refine r_aload (j := 0) rfl dX8_thatMay_31 ?_
    refine r_iload_n (j := 1) rfl rfl dX8_thatMay_33 ?_
    refine r_iload_n (j := 2) rfl rfl dX8_thatMay_34 ?_
    try unfold C_X2_mayBe at hf
    obtain ⟨⟨fs_r3, ha_r3⟩, hf⟩ := hf
    refine r_invVZ (t := 2) (As := [aI v1, aI v2]) (dz := d) (mz := 0) (sz := 0) rfl wd_4_180 wd_4_79 wd_4_80 cf_X2_mayBe (Nat.le_refl _) (Nat.zero_le _) (Nat.zero_le _) (cat_ok (Nat.le_of_ble_eq_true rfl)) rfl rfl ha_r3 dX8_thatMay_35 hf (fun r3 σ2 hk => ?_)
    replace hf := hk
    clear hk
    refine r_ifeqZ (b := r3) (tgt := 52) (by decide) dX8_thatMay_38 (fun hc => ?_) (fun hc => ?_)
    · replace hf := hf.1 hc
      exact r_sub [1, 2, 3, 4, 5, 6] rfl (b_X8_thatMay_52 hX17 hf)
    · replace hf := hf.2 hc
      refine r_iload (j := 3) rfl dX8_thatMay_41 ?_
      refine r_ifne (x := v4) (tgt := 49) (by decide) dX8_thatMay_43 (fun hc => ?_) (fun hc => ?_)
      · replace hf := hf.1 hc
        refine r_iinc (j := 3) (w := (v4 + (-1))) (L' := [(4, aI (v4 + (-1))), (8, aR (some x1)), (1, aI v1), (2, aI v2), (5, aR (some v5)), (6, aI v6), (7, aI v7)]) rfl (by rfl) rfl (Nat.le_of_ble_eq_true rfl) dX8_thatMay_49 ?_
        exact r_sub [2, 3, 0, 4, 5, 6] rfl (b_X8_thatMay_52 hX17 hf)
      · replace hf := hf.2 hc
        refine r_aload (j := 0) rfl dX8_thatMay_46 ?_
        exact r_areturn rfl (Or.inl ⟨_, rfl⟩) dX8_thatMay_48 rfl ⟨_, rfl, hf⟩
def Z_X8_thatMay_17 (l : Launch) (G : GG) (d : Nat) (K : Option Nat → Hp → Prop) : Nat → Int32 → Int32 → Int32 → Nat → Int32 → Int32 → Hp → Prop
  | 0 => fun _ _ _ _ _ _ _ => False
  | n + 1 => fun v1 v2 v4 v5 v6 v7 σ => F_X8_thatMay_17 l G d (Z_X8_thatMay_17 l G d K n) v1 v2 v4 v5 v6 v7 σ K
theorem z_X8_thatMay_17 {l : Launch} {G : GG} {d : Nat} {K : Option Nat → Hp → Prop} : ∀ (n : Nat) v1 v2 v4 v5 v6 v7 σ, Z_X8_thatMay_17 l G d K n v1 v2 v4 v5 v6 v7 σ → Wd l G (d + 1) "CoinsLaid$Table" yX8_thatMay cX8_thatMay 9 (some (FieldType.object "CoinsLaid$Lay")) 17 [(1, aI v1), (2, aI v2), (4, aI v4), (5, aR (some v5)), (6, aI v6), (7, aI v7)] [] σ 0 0 (xM (QR K)) := by
  intro n
  induction n with
  | zero => intro v1 v2 v4 v5 v6 v7 σ hf; exact hf.elim
  | succ n ih => intro v1 v2 v4 v5 v6 v7 σ hf; exact b_X8_thatMay_17 ih hf
def F_X8_thatMay (l : Launch) (G : GG) (d : Nat) (v0 : Nat) (v1 : Int32) (v2 : Int32) (v3 : Int32) (σ : Hp) (K : Option Nat → Hp → Prop) : Prop :=
  fN σ v0 8 8 fun x4 =>
  aL σ x4 fun x5 =>
  ∃ n, Z_X8_thatMay_17 l G d K n v1 v2 v3 x4 x5 0 σ
set_option maxRecDepth 100000 in
set_option maxHeartbeats 4000000 in
theorem b_X8_thatMay_0 {l : Launch} {G : GG} {d : Nat} {v0 : Nat} {v1 : Int32} {v2 : Int32} {v3 : Int32} {σ : Hp} {K : Option Nat → Hp → Prop} (hf : F_X8_thatMay l G d v0 v1 v2 v3 σ K) : Wd l G (d + 1) "CoinsLaid$Table" yX8_thatMay cX8_thatMay 9 (some (FieldType.object "CoinsLaid$Lay")) 0 [(0, aR (some v0)), (1, aI v1), (2, aI v2), (3, aI v3)] [] σ 0 0 (xM (QR K)) := by
  unfold F_X8_thatMay at hf
  refine r_iload_n (j := 3) rfl rfl dX8_thatMay_0 ?_
  refine r_istore (L' := [(4, aI v3), (0, aR (some v0)), (1, aI v1), (2, aI v2), (3, aI v3)]) rfl (Nat.le_of_ble_eq_true rfl) dX8_thatMay_1 ?_
  refine r_aload_n (j := 1) rfl rfl dX8_thatMay_3 ?_
  obtain ⟨fs_x4, x4, ha_x4, hv_x4, hf⟩ := hf
  refine r_get (Cn := RX8) (Tt := TX8) (N := 9) (n := 8) rfl uw_X8 (Nat.le_of_ble_eq_true rfl) wd_2_79 ha_x4 hv_x4 dX8_thatMay_4 ?_
  refine r_astore (L' := [(5, aR (some x4)), (4, aI v3), (0, aR (some v0)), (1, aI v1), (2, aI v2), (3, aI v3)]) rfl (Nat.le_of_ble_eq_true rfl) dX8_thatMay_7 ?_
  refine r_aload (j := 0) rfl dX8_thatMay_9 ?_
  obtain ⟨t_x5, N_x5, f_x5, ha_x5, hf⟩ := hf
  refine r_alen ha_x5 dX8_thatMay_11 ?_
  generalize nI N_x5 = x5 at hf ⊢
  refine r_istore (L' := [(6, aI x5), (5, aR (some x4)), (4, aI v3), (0, aR (some v0)), (1, aI v1), (2, aI v2), (3, aI v3)]) rfl (Nat.le_of_ble_eq_true rfl) dX8_thatMay_12 ?_
  refine r_iconst (v := 0) (by decide) dX8_thatMay_14 ?_
  refine r_istore (L' := [(7, aI 0), (6, aI x5), (5, aR (some x4)), (4, aI v3), (0, aR (some v0)), (1, aI v1), (2, aI v2), (3, aI v3)]) rfl (Nat.le_of_ble_eq_true rfl) dX8_thatMay_15 ?_
  obtain ⟨n, hf⟩ := hf
  exact r_sub [5, 6, 3, 2, 1, 0] rfl (z_X8_thatMay_17 n _ _ _ _ _ _ _ hf)
theorem m_X8_thatMay {l : Launch} {G : GG} {d : Nat} {v0 : Nat} {v1 : Int32} {v2 : Int32} {v3 : Int32} {σ : Hp} {K : Option Nat → Hp → Prop} (hr : rv σ v0 8) (hf : F_X8_thatMay l G d v0 v1 v2 v3 σ K) : C_X8_thatMay l G (d + 1) v0 v1 v2 v3 σ K := ⟨hr, Sp.of (by decide) (Nat.le_of_ble_eq_true rfl) (b_X8_thatMay_0 hf) rfl⟩
def F_X8_deadSquares_44 (l : Launch) (G : GG) (d : Nat) (X14 : Nat → Int32 → Int32 → Nat → Int32 → Int32 → Hp → Prop) (v0 : Nat) (v1 : Int32) (v2 : Int32) (v3 : Nat) (v4 : Int32) (v5 : Int32) (σ : Hp) (K : Int32 → Hp → Prop) : Prop :=
  X14 v0 v1 v2 v3 v4 (v5 + 1) σ
set_option maxRecDepth 100000 in
set_option maxHeartbeats 4000000 in
theorem b_X8_deadSquares_44 {l : Launch} {G : GG} {d : Nat} {X14 : Nat → Int32 → Int32 → Nat → Int32 → Int32 → Hp → Prop} {v0 : Nat} {v1 : Int32} {v2 : Int32} {v3 : Nat} {v4 : Int32} {v5 : Int32} {σ : Hp} {K : Int32 → Hp → Prop} (hX14 : ∀ v0 v1 v2 v3 v4 v5 σ, X14 v0 v1 v2 v3 v4 v5 σ → Wd l G (d + 1) "CoinsLaid$Table" yX8_deadSquares cX8_deadSquares 7 (some FieldType.int) 14 [(0, aR (some v0)), (1, aI v1), (2, aI v2), (3, aR (some v3)), (4, aI v4), (5, aI v5)] [] σ 0 0 (xM (QI K))) (hf : F_X8_deadSquares_44 l G d X14 v0 v1 v2 v3 v4 v5 σ K) : Wd l G (d + 1) "CoinsLaid$Table" yX8_deadSquares cX8_deadSquares 7 (some FieldType.int) 44 [(0, aR (some v0)), (1, aI v1), (2, aI v2), (3, aR (some v3)), (4, aI v4), (5, aI v5)] [] σ 0 0 (xM (QI K)) := by
  unfold F_X8_deadSquares_44 at hf
  refine r_iinc (j := 5) (w := (v5 + 1)) (L' := [(5, aI (v5 + 1)), (0, aR (some v0)), (1, aI v1), (2, aI v2), (3, aR (some v3)), (4, aI v4)]) rfl (by rfl) rfl (Nat.le_of_ble_eq_true rfl) dX8_deadSquares_44 ?_
  refine r_goto (tgt := 14) (by decide) dX8_deadSquares_47 ?_
  exact r_sub [1, 2, 3, 4, 5, 0] rfl (hX14 _ _ _ _ _ _ _ hf)
def F_X8_deadSquares_14 (l : Launch) (G : GG) (d : Nat) (X14 : Nat → Int32 → Int32 → Nat → Int32 → Int32 → Hp → Prop) (v0 : Nat) (v1 : Int32) (v2 : Int32) (v3 : Nat) (v4 : Int32) (v5 : Int32) (σ : Hp) (K : Int32 → Hp → Prop) : Prop :=
  ((v4 : Int32) ≤ (v5 : Int32) →
    fI σ v0 8 5 fun x1 =>
    fI σ v0 8 6 fun x2 =>
    K (((1 <<< (x1 &&& 31)) - 1) &&& (((v1 ||| x2) ||| v2) ^^^ (-1))) σ) ∧
  (¬ (v4 : Int32) ≤ (v5 : Int32) →
    gN 3 σ v3 v5 fun x3 =>
    C_X2_hasRoom l G d x3 v1 σ fun r5 σ4 =>
    (r5 = false →
      F_X8_deadSquares_44 l G d X14 v0 v1 v2 v3 v4 v5 σ4 K) ∧
    (r5 = true →
      fI σ4 x3 2 6 fun x6 =>
      F_X8_deadSquares_44 l G d X14 v0 v1 (v2 ||| x6) v3 v4 v5 σ4 K))
set_option maxRecDepth 100000 in
set_option maxHeartbeats 4000000 in
theorem b_X8_deadSquares_14 {l : Launch} {G : GG} {d : Nat} {X14 : Nat → Int32 → Int32 → Nat → Int32 → Int32 → Hp → Prop} {v0 : Nat} {v1 : Int32} {v2 : Int32} {v3 : Nat} {v4 : Int32} {v5 : Int32} {σ : Hp} {K : Int32 → Hp → Prop} (hX14 : ∀ v0 v1 v2 v3 v4 v5 σ, X14 v0 v1 v2 v3 v4 v5 σ → Wd l G (d + 1) "CoinsLaid$Table" yX8_deadSquares cX8_deadSquares 7 (some FieldType.int) 14 [(0, aR (some v0)), (1, aI v1), (2, aI v2), (3, aR (some v3)), (4, aI v4), (5, aI v5)] [] σ 0 0 (xM (QI K))) (hf : F_X8_deadSquares_14 l G d X14 v0 v1 v2 v3 v4 v5 σ K) : Wd l G (d + 1) "CoinsLaid$Table" yX8_deadSquares cX8_deadSquares 7 (some FieldType.int) 14 [(0, aR (some v0)), (1, aI v1), (2, aI v2), (3, aR (some v3)), (4, aI v4), (5, aI v5)] [] σ 0 0 (xM (QI K)) := by
  unfold F_X8_deadSquares_14 at hf
  refine r_iload (j := 5) rfl dX8_deadSquares_14 ?_
  refine r_iload (j := 4) rfl dX8_deadSquares_16 ?_
  refine r_icmpge (x := v5) (y := v4) (tgt := 50) (by decide) dX8_deadSquares_18 (fun hc => ?_) (fun hc => ?_)
  · replace hf := hf.1 hc
    refine r_iconst (v := 1) (by decide) dX8_deadSquares_50 ?_
    refine r_aload_n (j := 0) rfl rfl dX8_deadSquares_51 ?_
    obtain ⟨fs_x1, x1, ha_x1, hv_x1, hf⟩ := hf
    refine r_get (Cn := RX8) (Tt := TX8) (N := 9) (n := 5) rfl uw_X8 (Nat.le_of_ble_eq_true rfl) wd_2_70 ha_x1 hv_x1 dX8_deadSquares_52 ?_
    refine r_ishl (x := 1) (y := x1) dX8_deadSquares_55 ?_
    refine r_iconst (v := 1) (by decide) dX8_deadSquares_56 ?_
    refine r_isub (x := (1 <<< (x1 &&& 31))) (y := 1) dX8_deadSquares_57 ?_
    refine r_iload_n (j := 1) rfl rfl dX8_deadSquares_58 ?_
    refine r_aload_n (j := 0) rfl rfl dX8_deadSquares_59 ?_
    obtain ⟨fs_x2, x2, ha_x2, hv_x2, hf⟩ := hf
    refine r_get (Cn := RX8) (Tt := TX8) (N := 9) (n := 6) rfl uw_X8 (Nat.le_of_ble_eq_true rfl) wd_2_74 ha_x2 hv_x2 dX8_deadSquares_60 ?_
    refine r_ior (x := v1) (y := x2) dX8_deadSquares_63 ?_
    refine r_iload_n (j := 2) rfl rfl dX8_deadSquares_64 ?_
    refine r_ior (x := (v1 ||| x2)) (y := v2) dX8_deadSquares_65 ?_
    refine r_iconst (v := (-1)) (by decide) dX8_deadSquares_66 ?_
    refine r_ixor (x := ((v1 ||| x2) ||| v2)) (y := (-1)) dX8_deadSquares_67 ?_
    refine r_iand (x := ((1 <<< (x1 &&& 31)) - 1)) (y := (((v1 ||| x2) ||| v2) ^^^ (-1))) dX8_deadSquares_68 ?_
    exact r_ireturn rfl dX8_deadSquares_69 rfl ⟨_, rfl, hf⟩
  · replace hf := hf.2 hc
    refine r_aload_n (j := 3) rfl rfl dX8_deadSquares_21 ?_
    refine r_iload (j := 5) rfl dX8_deadSquares_22 ?_
    obtain ⟨N_x3, f_x3, x3, ha_x3, hi_x3, hv_x3, hf⟩ := hf
    refine r_aald3 ha_x3 hi_x3 dX8_deadSquares_24 ?_
    rw [hv_x3]
    refine r_astore (L' := [(6, aR (some x3)), (0, aR (some v0)), (1, aI v1), (2, aI v2), (3, aR (some v3)), (4, aI v4), (5, aI v5)]) rfl (Nat.le_of_ble_eq_true rfl) dX8_deadSquares_25 ?_
    refine r_aload (j := 0) rfl dX8_deadSquares_27 ?_
    refine r_iload_n (j := 2) rfl rfl dX8_deadSquares_29 ?_
    try unfold C_X2_hasRoom at hf
    obtain ⟨⟨fs_r5, ha_r5⟩, hf⟩ := hf
    refine r_invVZ (t := 2) (As := [aI v1]) (dz := d) (mz := 0) (sz := 0) rfl wd_4_205 wd_4_83 wd_4_84 cf_X2_hasRoom (Nat.le_refl _) (Nat.zero_le _) (Nat.zero_le _) (cat_ok (Nat.le_of_ble_eq_true rfl)) rfl rfl ha_r5 dX8_deadSquares_30 hf (fun r5 σ4 hk => ?_)
    replace hf := hk
    clear hk
    refine r_ifeqZ (b := r5) (tgt := 44) (by decide) dX8_deadSquares_33 (fun hc => ?_) (fun hc => ?_)
    · replace hf := hf.1 hc
      exact r_sub [1, 2, 3, 4, 5, 6] rfl (b_X8_deadSquares_44 hX14 hf)
    · replace hf := hf.2 hc
      refine r_iload_n (j := 3) rfl rfl dX8_deadSquares_36 ?_
      refine r_aload (j := 0) rfl dX8_deadSquares_37 ?_
      obtain ⟨fs_x6, x6, ha_x6, hv_x6, hf⟩ := hf
      refine r_get (Cn := RX2) (Tt := TX2) (N := 9) (n := 6) rfl uw_X2 (Nat.le_of_ble_eq_true rfl) wd_4_32 ha_x6 hv_x6 dX8_deadSquares_39 ?_
      refine r_ior (x := v2) (y := x6) dX8_deadSquares_42 ?_
      refine r_istore_n (L' := [(2, aI (v2 ||| x6)), (6, aR (some x3)), (0, aR (some v0)), (1, aI v1), (3, aR (some v3)), (4, aI v4), (5, aI v5)]) rfl rfl (Nat.le_of_ble_eq_true rfl) dX8_deadSquares_43 ?_
      exact r_sub [2, 3, 0, 4, 5, 6] rfl (b_X8_deadSquares_44 hX14 hf)
def Z_X8_deadSquares_14 (l : Launch) (G : GG) (d : Nat) (K : Int32 → Hp → Prop) : Nat → Nat → Int32 → Int32 → Nat → Int32 → Int32 → Hp → Prop
  | 0 => fun _ _ _ _ _ _ _ => False
  | n + 1 => fun v0 v1 v2 v3 v4 v5 σ => F_X8_deadSquares_14 l G d (Z_X8_deadSquares_14 l G d K n) v0 v1 v2 v3 v4 v5 σ K
theorem z_X8_deadSquares_14 {l : Launch} {G : GG} {d : Nat} {K : Int32 → Hp → Prop} : ∀ (n : Nat) v0 v1 v2 v3 v4 v5 σ, Z_X8_deadSquares_14 l G d K n v0 v1 v2 v3 v4 v5 σ → Wd l G (d + 1) "CoinsLaid$Table" yX8_deadSquares cX8_deadSquares 7 (some FieldType.int) 14 [(0, aR (some v0)), (1, aI v1), (2, aI v2), (3, aR (some v3)), (4, aI v4), (5, aI v5)] [] σ 0 0 (xM (QI K)) := by
  intro n
  induction n with
  | zero => intro v0 v1 v2 v3 v4 v5 σ hf; exact hf.elim
  | succ n ih => intro v0 v1 v2 v3 v4 v5 σ hf; exact b_X8_deadSquares_14 ih hf
def F_X8_deadSquares (l : Launch) (G : GG) (d : Nat) (v0 : Nat) (v1 : Int32) (σ : Hp) (K : Int32 → Hp → Prop) : Prop :=
  fN σ v0 8 8 fun x7 =>
  aL σ x7 fun x8 =>
  ∃ n, Z_X8_deadSquares_14 l G d K n v0 v1 0 x7 x8 0 σ
set_option maxRecDepth 100000 in
set_option maxHeartbeats 4000000 in
theorem b_X8_deadSquares_0 {l : Launch} {G : GG} {d : Nat} {v0 : Nat} {v1 : Int32} {σ : Hp} {K : Int32 → Hp → Prop} (hf : F_X8_deadSquares l G d v0 v1 σ K) : Wd l G (d + 1) "CoinsLaid$Table" yX8_deadSquares cX8_deadSquares 7 (some FieldType.int) 0 [(0, aR (some v0)), (1, aI v1)] [] σ 0 0 (xM (QI K)) := by
  unfold F_X8_deadSquares at hf
  refine r_iconst (v := 0) (by decide) dX8_deadSquares_0 ?_
  refine r_istore_n (L' := [(2, aI 0), (0, aR (some v0)), (1, aI v1)]) rfl rfl (Nat.le_of_ble_eq_true rfl) dX8_deadSquares_1 ?_
  refine r_aload_n (j := 1) rfl rfl dX8_deadSquares_2 ?_
  obtain ⟨fs_x7, x7, ha_x7, hv_x7, hf⟩ := hf
  refine r_get (Cn := RX8) (Tt := TX8) (N := 9) (n := 8) rfl uw_X8 (Nat.le_of_ble_eq_true rfl) wd_2_79 ha_x7 hv_x7 dX8_deadSquares_3 ?_
  refine r_astore_n (L' := [(3, aR (some x7)), (2, aI 0), (0, aR (some v0)), (1, aI v1)]) rfl rfl (Nat.le_of_ble_eq_true rfl) dX8_deadSquares_6 ?_
  refine r_aload_n (j := 0) rfl rfl dX8_deadSquares_7 ?_
  obtain ⟨t_x8, N_x8, f_x8, ha_x8, hf⟩ := hf
  refine r_alen ha_x8 dX8_deadSquares_8 ?_
  generalize nI N_x8 = x8 at hf ⊢
  refine r_istore (L' := [(4, aI x8), (3, aR (some x7)), (2, aI 0), (0, aR (some v0)), (1, aI v1)]) rfl (Nat.le_of_ble_eq_true rfl) dX8_deadSquares_9 ?_
  refine r_iconst (v := 0) (by decide) dX8_deadSquares_11 ?_
  refine r_istore (L' := [(5, aI 0), (4, aI x8), (3, aR (some x7)), (2, aI 0), (0, aR (some v0)), (1, aI v1)]) rfl (Nat.le_of_ble_eq_true rfl) dX8_deadSquares_12 ?_
  obtain ⟨n, hf⟩ := hf
  exact r_sub [4, 5, 3, 2, 1, 0] rfl (z_X8_deadSquares_14 n _ _ _ _ _ _ _ hf)
theorem m_X8_deadSquares {l : Launch} {G : GG} {d : Nat} {v0 : Nat} {v1 : Int32} {σ : Hp} {K : Int32 → Hp → Prop} (hr : rv σ v0 8) (hf : F_X8_deadSquares l G d v0 v1 σ K) : C_X8_deadSquares l G (d + 1) v0 v1 σ K := ⟨hr, Sp.of (by decide) (Nat.le_of_ble_eq_true rfl) (b_X8_deadSquares_0 hf) rfl⟩
def F_X8_countSpoiled_56 (l : Launch) (G : GG) (d : Nat) (X16 : Int32 → Nat → Int32 → Nat → Int32 → Int32 → Hp → Prop) (v1 : Int32) (v2 : Nat) (v3 : Int32) (v4 : Nat) (v5 : Int32) (v6 : Int32) (σ : Hp) (K : Int32 → Hp → Prop) : Prop :=
  X16 v1 v2 v3 v4 v5 (v6 + 1) σ
set_option maxRecDepth 100000 in
set_option maxHeartbeats 4000000 in
theorem b_X8_countSpoiled_56 {l : Launch} {G : GG} {d : Nat} {X16 : Int32 → Nat → Int32 → Nat → Int32 → Int32 → Hp → Prop} {v1 : Int32} {v2 : Nat} {v3 : Int32} {v4 : Nat} {v5 : Int32} {v6 : Int32} {σ : Hp} {K : Int32 → Hp → Prop} (hX16 : ∀ v1 v2 v3 v4 v5 v6 σ, X16 v1 v2 v3 v4 v5 v6 σ → Wd l G (d + 1) "CoinsLaid$Table" yX8_countSpoiled cX8_countSpoiled 8 (some FieldType.int) 16 [(1, aI v1), (2, aR (some v2)), (3, aI v3), (4, aR (some v4)), (5, aI v5), (6, aI v6)] [] σ 0 0 (xM (QI K))) (hf : F_X8_countSpoiled_56 l G d X16 v1 v2 v3 v4 v5 v6 σ K) : Wd l G (d + 1) "CoinsLaid$Table" yX8_countSpoiled cX8_countSpoiled 8 (some FieldType.int) 56 [(1, aI v1), (2, aR (some v2)), (3, aI v3), (4, aR (some v4)), (5, aI v5), (6, aI v6)] [] σ 0 0 (xM (QI K)) := by
  unfold F_X8_countSpoiled_56 at hf
  refine r_iinc (j := 5) (w := (v6 + 1)) (L' := [(6, aI (v6 + 1)), (1, aI v1), (2, aR (some v2)), (3, aI v3), (4, aR (some v4)), (5, aI v5)]) rfl (by rfl) rfl (Nat.le_of_ble_eq_true rfl) dX8_countSpoiled_56 ?_
  refine r_goto (tgt := 16) (by decide) dX8_countSpoiled_59 ?_
  exact r_sub [1, 2, 3, 4, 5, 0] rfl (hX16 _ _ _ _ _ _ _ hf)
def F_X8_countSpoiled_16 (l : Launch) (G : GG) (d : Nat) (X16 : Int32 → Nat → Int32 → Nat → Int32 → Int32 → Hp → Prop) (v1 : Int32) (v2 : Nat) (v3 : Int32) (v4 : Nat) (v5 : Int32) (v6 : Int32) (σ : Hp) (K : Int32 → Hp → Prop) : Prop :=
  ((v5 : Int32) ≤ (v6 : Int32) →
    K v3 σ) ∧
  (¬ (v5 : Int32) ≤ (v6 : Int32) →
    gN 3 σ v4 v6 fun x1 =>
    C_X2_hasRoom l G d x1 v1 σ fun r3 σ2 =>
    (r3 = false →
      F_X8_countSpoiled_56 l G d X16 v1 v2 v3 v4 v5 v6 σ2 K) ∧
    (r3 = true →
      fI σ2 v2 2 6 fun x4 =>
      C_X2_hasRoom l G d x1 (v1 ||| x4) σ2 fun r6 σ5 =>
      (r6 = true →
        F_X8_countSpoiled_56 l G d X16 v1 v2 v3 v4 v5 v6 σ5 K) ∧
      (r6 = false →
        F_X8_countSpoiled_56 l G d X16 v1 v2 (v3 + 1) v4 v5 v6 σ5 K)))
set_option maxRecDepth 100000 in
set_option maxHeartbeats 4000000 in
theorem b_X8_countSpoiled_16 {l : Launch} {G : GG} {d : Nat} {X16 : Int32 → Nat → Int32 → Nat → Int32 → Int32 → Hp → Prop} {v1 : Int32} {v2 : Nat} {v3 : Int32} {v4 : Nat} {v5 : Int32} {v6 : Int32} {σ : Hp} {K : Int32 → Hp → Prop} (hX16 : ∀ v1 v2 v3 v4 v5 v6 σ, X16 v1 v2 v3 v4 v5 v6 σ → Wd l G (d + 1) "CoinsLaid$Table" yX8_countSpoiled cX8_countSpoiled 8 (some FieldType.int) 16 [(1, aI v1), (2, aR (some v2)), (3, aI v3), (4, aR (some v4)), (5, aI v5), (6, aI v6)] [] σ 0 0 (xM (QI K))) (hf : F_X8_countSpoiled_16 l G d X16 v1 v2 v3 v4 v5 v6 σ K) : Wd l G (d + 1) "CoinsLaid$Table" yX8_countSpoiled cX8_countSpoiled 8 (some FieldType.int) 16 [(1, aI v1), (2, aR (some v2)), (3, aI v3), (4, aR (some v4)), (5, aI v5), (6, aI v6)] [] σ 0 0 (xM (QI K)) := by
  unfold F_X8_countSpoiled_16 at hf
  refine r_iload (j := 5) rfl dX8_countSpoiled_16 ?_
  refine r_iload (j := 4) rfl dX8_countSpoiled_18 ?_
  refine r_icmpge (x := v6) (y := v5) (tgt := 62) (by decide) dX8_countSpoiled_20 (fun hc => ?_) (fun hc => ?_)
  · replace hf := hf.1 hc
    refine r_iload_n (j := 2) rfl rfl dX8_countSpoiled_62 ?_
    exact r_ireturn rfl dX8_countSpoiled_63 rfl ⟨_, rfl, hf⟩
  · replace hf := hf.2 hc
    refine r_aload (j := 3) rfl dX8_countSpoiled_23 ?_
    refine r_iload (j := 5) rfl dX8_countSpoiled_25 ?_
    obtain ⟨N_x1, f_x1, x1, ha_x1, hi_x1, hv_x1, hf⟩ := hf
    refine r_aald3 ha_x1 hi_x1 dX8_countSpoiled_27 ?_
    rw [hv_x1]
    refine r_astore (L' := [(7, aR (some x1)), (1, aI v1), (2, aR (some v2)), (3, aI v3), (4, aR (some v4)), (5, aI v5), (6, aI v6)]) rfl (Nat.le_of_ble_eq_true rfl) dX8_countSpoiled_28 ?_
    refine r_aload (j := 0) rfl dX8_countSpoiled_30 ?_
    refine r_iload_n (j := 1) rfl rfl dX8_countSpoiled_32 ?_
    try unfold C_X2_hasRoom at hf
    obtain ⟨⟨fs_r3, ha_r3⟩, hf⟩ := hf
    refine r_invVZ (t := 2) (As := [aI v1]) (dz := d) (mz := 0) (sz := 0) rfl wd_4_205 wd_4_83 wd_4_84 cf_X2_hasRoom (Nat.le_refl _) (Nat.zero_le _) (Nat.zero_le _) (cat_ok (Nat.le_of_ble_eq_true rfl)) rfl rfl ha_r3 dX8_countSpoiled_33 hf (fun r3 σ2 hk => ?_)
    replace hf := hk
    clear hk
    refine r_ifeqZ (b := r3) (tgt := 56) (by decide) dX8_countSpoiled_36 (fun hc => ?_) (fun hc => ?_)
    · replace hf := hf.1 hc
      exact r_sub [1, 2, 3, 4, 5, 6] rfl (b_X8_countSpoiled_56 hX16 hf)
    · replace hf := hf.2 hc
      refine r_aload (j := 0) rfl dX8_countSpoiled_39 ?_
      refine r_iload_n (j := 1) rfl rfl dX8_countSpoiled_41 ?_
      refine r_aload_n (j := 2) rfl rfl dX8_countSpoiled_42 ?_
      obtain ⟨fs_x4, x4, ha_x4, hv_x4, hf⟩ := hf
      refine r_get (Cn := RX2) (Tt := TX2) (N := 9) (n := 6) rfl uw_X2 (Nat.le_of_ble_eq_true rfl) wd_4_32 ha_x4 hv_x4 dX8_countSpoiled_43 ?_
      refine r_ior (x := v1) (y := x4) dX8_countSpoiled_46 ?_
      try unfold C_X2_hasRoom at hf
      obtain ⟨⟨fs_r6, ha_r6⟩, hf⟩ := hf
      refine r_invVZ (t := 2) (As := [aI (v1 ||| x4)]) (dz := d) (mz := 0) (sz := 0) rfl wd_4_205 wd_4_83 wd_4_84 cf_X2_hasRoom (Nat.le_refl _) (Nat.zero_le _) (Nat.zero_le _) (cat_ok (Nat.le_of_ble_eq_true rfl)) rfl rfl ha_r6 dX8_countSpoiled_47 hf (fun r6 σ5 hk => ?_)
      replace hf := hk
      clear hk
      refine r_ifneZ (b := r6) (tgt := 56) (by decide) dX8_countSpoiled_50 (fun hc => ?_) (fun hc => ?_)
      · replace hf := hf.1 hc
        exact r_sub [1, 2, 3, 4, 5, 6] rfl (b_X8_countSpoiled_56 hX16 hf)
      · replace hf := hf.2 hc
        refine r_iinc (j := 3) (w := (v3 + 1)) (L' := [(3, aI (v3 + 1)), (7, aR (some x1)), (1, aI v1), (2, aR (some v2)), (4, aR (some v4)), (5, aI v5), (6, aI v6)]) rfl (by rfl) rfl (Nat.le_of_ble_eq_true rfl) dX8_countSpoiled_53 ?_
        exact r_sub [2, 3, 0, 4, 5, 6] rfl (b_X8_countSpoiled_56 hX16 hf)
def Z_X8_countSpoiled_16 (l : Launch) (G : GG) (d : Nat) (K : Int32 → Hp → Prop) : Nat → Int32 → Nat → Int32 → Nat → Int32 → Int32 → Hp → Prop
  | 0 => fun _ _ _ _ _ _ _ => False
  | n + 1 => fun v1 v2 v3 v4 v5 v6 σ => F_X8_countSpoiled_16 l G d (Z_X8_countSpoiled_16 l G d K n) v1 v2 v3 v4 v5 v6 σ K
theorem z_X8_countSpoiled_16 {l : Launch} {G : GG} {d : Nat} {K : Int32 → Hp → Prop} : ∀ (n : Nat) v1 v2 v3 v4 v5 v6 σ, Z_X8_countSpoiled_16 l G d K n v1 v2 v3 v4 v5 v6 σ → Wd l G (d + 1) "CoinsLaid$Table" yX8_countSpoiled cX8_countSpoiled 8 (some FieldType.int) 16 [(1, aI v1), (2, aR (some v2)), (3, aI v3), (4, aR (some v4)), (5, aI v5), (6, aI v6)] [] σ 0 0 (xM (QI K)) := by
  intro n
  induction n with
  | zero => intro v1 v2 v3 v4 v5 v6 σ hf; exact hf.elim
  | succ n ih => intro v1 v2 v3 v4 v5 v6 σ hf; exact b_X8_countSpoiled_16 ih hf
def F_X8_countSpoiled (l : Launch) (G : GG) (d : Nat) (v0 : Nat) (v1 : Int32) (v2 : Nat) (σ : Hp) (K : Int32 → Hp → Prop) : Prop :=
  fN σ v0 8 8 fun x7 =>
  aL σ x7 fun x8 =>
  ∃ n, Z_X8_countSpoiled_16 l G d K n v1 v2 0 x7 x8 0 σ
set_option maxRecDepth 100000 in
set_option maxHeartbeats 4000000 in
theorem b_X8_countSpoiled_0 {l : Launch} {G : GG} {d : Nat} {v0 : Nat} {v1 : Int32} {v2 : Nat} {σ : Hp} {K : Int32 → Hp → Prop} (hf : F_X8_countSpoiled l G d v0 v1 v2 σ K) : Wd l G (d + 1) "CoinsLaid$Table" yX8_countSpoiled cX8_countSpoiled 8 (some FieldType.int) 0 [(0, aR (some v0)), (1, aI v1), (2, aR (some v2))] [] σ 0 0 (xM (QI K)) := by
  unfold F_X8_countSpoiled at hf
  refine r_iconst (v := 0) (by decide) dX8_countSpoiled_0 ?_
  refine r_istore_n (L' := [(3, aI 0), (0, aR (some v0)), (1, aI v1), (2, aR (some v2))]) rfl rfl (Nat.le_of_ble_eq_true rfl) dX8_countSpoiled_1 ?_
  refine r_aload_n (j := 1) rfl rfl dX8_countSpoiled_2 ?_
  obtain ⟨fs_x7, x7, ha_x7, hv_x7, hf⟩ := hf
  refine r_get (Cn := RX8) (Tt := TX8) (N := 9) (n := 8) rfl uw_X8 (Nat.le_of_ble_eq_true rfl) wd_2_79 ha_x7 hv_x7 dX8_countSpoiled_3 ?_
  refine r_astore (L' := [(4, aR (some x7)), (3, aI 0), (0, aR (some v0)), (1, aI v1), (2, aR (some v2))]) rfl (Nat.le_of_ble_eq_true rfl) dX8_countSpoiled_6 ?_
  refine r_aload (j := 0) rfl dX8_countSpoiled_8 ?_
  obtain ⟨t_x8, N_x8, f_x8, ha_x8, hf⟩ := hf
  refine r_alen ha_x8 dX8_countSpoiled_10 ?_
  generalize nI N_x8 = x8 at hf ⊢
  refine r_istore (L' := [(5, aI x8), (4, aR (some x7)), (3, aI 0), (0, aR (some v0)), (1, aI v1), (2, aR (some v2))]) rfl (Nat.le_of_ble_eq_true rfl) dX8_countSpoiled_11 ?_
  refine r_iconst (v := 0) (by decide) dX8_countSpoiled_13 ?_
  refine r_istore (L' := [(6, aI 0), (5, aI x8), (4, aR (some x7)), (3, aI 0), (0, aR (some v0)), (1, aI v1), (2, aR (some v2))]) rfl (Nat.le_of_ble_eq_true rfl) dX8_countSpoiled_14 ?_
  obtain ⟨n, hf⟩ := hf
  exact r_sub [5, 6, 3, 2, 1, 0] rfl (z_X8_countSpoiled_16 n _ _ _ _ _ _ _ hf)
theorem m_X8_countSpoiled {l : Launch} {G : GG} {d : Nat} {v0 : Nat} {v1 : Int32} {v2 : Nat} {σ : Hp} {K : Int32 → Hp → Prop} (hr : rv σ v0 8) (hf : F_X8_countSpoiled l G d v0 v1 v2 σ K) : C_X8_countSpoiled l G (d + 1) v0 v1 v2 σ K := ⟨hr, Sp.of (by decide) (Nat.le_of_ble_eq_true rfl) (b_X8_countSpoiled_0 hf) rfl⟩
def F_X8_countOpen_54 (l : Launch) (G : GG) (d : Nat) (X16 : Int32 → Int32 → Int32 → Nat → Int32 → Int32 → Hp → Prop) (v1 : Int32) (v2 : Int32) (v3 : Int32) (v4 : Nat) (v5 : Int32) (v6 : Int32) (σ : Hp) (K : Int32 → Hp → Prop) : Prop :=
  X16 v1 v2 v3 v4 v5 (v6 + 1) σ
set_option maxRecDepth 100000 in
set_option maxHeartbeats 4000000 in
theorem b_X8_countOpen_54 {l : Launch} {G : GG} {d : Nat} {X16 : Int32 → Int32 → Int32 → Nat → Int32 → Int32 → Hp → Prop} {v1 : Int32} {v2 : Int32} {v3 : Int32} {v4 : Nat} {v5 : Int32} {v6 : Int32} {σ : Hp} {K : Int32 → Hp → Prop} (hX16 : ∀ v1 v2 v3 v4 v5 v6 σ, X16 v1 v2 v3 v4 v5 v6 σ → Wd l G (d + 1) "CoinsLaid$Table" yX8_countOpen cX8_countOpen 8 (some FieldType.int) 16 [(1, aI v1), (2, aI v2), (3, aI v3), (4, aR (some v4)), (5, aI v5), (6, aI v6)] [] σ 0 0 (xM (QI K))) (hf : F_X8_countOpen_54 l G d X16 v1 v2 v3 v4 v5 v6 σ K) : Wd l G (d + 1) "CoinsLaid$Table" yX8_countOpen cX8_countOpen 8 (some FieldType.int) 54 [(1, aI v1), (2, aI v2), (3, aI v3), (4, aR (some v4)), (5, aI v5), (6, aI v6)] [] σ 0 0 (xM (QI K)) := by
  unfold F_X8_countOpen_54 at hf
  refine r_iinc (j := 5) (w := (v6 + 1)) (L' := [(6, aI (v6 + 1)), (1, aI v1), (2, aI v2), (3, aI v3), (4, aR (some v4)), (5, aI v5)]) rfl (by rfl) rfl (Nat.le_of_ble_eq_true rfl) dX8_countOpen_54 ?_
  refine r_goto (tgt := 16) (by decide) dX8_countOpen_57 ?_
  exact r_sub [1, 2, 3, 4, 5, 0] rfl (hX16 _ _ _ _ _ _ _ hf)
def F_X8_countOpen_16 (l : Launch) (G : GG) (d : Nat) (X16 : Int32 → Int32 → Int32 → Nat → Int32 → Int32 → Hp → Prop) (v1 : Int32) (v2 : Int32) (v3 : Int32) (v4 : Nat) (v5 : Int32) (v6 : Int32) (σ : Hp) (K : Int32 → Hp → Prop) : Prop :=
  ((v5 : Int32) ≤ (v6 : Int32) →
    K v3 σ) ∧
  (¬ (v5 : Int32) ≤ (v6 : Int32) →
    gN 3 σ v4 v6 fun x1 =>
    C_X2_hasRoom l G d x1 v1 σ fun r3 σ2 =>
    (r3 = false →
      F_X8_countOpen_54 l G d X16 v1 v2 v3 v4 v5 v6 σ2 K) ∧
    (r3 = true →
      fI σ2 x1 2 6 fun x4 =>
      ((((x4 >>> (v2 &&& 31)) &&& 1) : Int32) = 0 →
        F_X8_countOpen_54 l G d X16 v1 v2 v3 v4 v5 v6 σ2 K) ∧
      (¬ (((x4 >>> (v2 &&& 31)) &&& 1) : Int32) = 0 →
        F_X8_countOpen_54 l G d X16 v1 v2 (v3 + 1) v4 v5 v6 σ2 K)))
set_option maxRecDepth 100000 in
set_option maxHeartbeats 4000000 in
theorem b_X8_countOpen_16 {l : Launch} {G : GG} {d : Nat} {X16 : Int32 → Int32 → Int32 → Nat → Int32 → Int32 → Hp → Prop} {v1 : Int32} {v2 : Int32} {v3 : Int32} {v4 : Nat} {v5 : Int32} {v6 : Int32} {σ : Hp} {K : Int32 → Hp → Prop} (hX16 : ∀ v1 v2 v3 v4 v5 v6 σ, X16 v1 v2 v3 v4 v5 v6 σ → Wd l G (d + 1) "CoinsLaid$Table" yX8_countOpen cX8_countOpen 8 (some FieldType.int) 16 [(1, aI v1), (2, aI v2), (3, aI v3), (4, aR (some v4)), (5, aI v5), (6, aI v6)] [] σ 0 0 (xM (QI K))) (hf : F_X8_countOpen_16 l G d X16 v1 v2 v3 v4 v5 v6 σ K) : Wd l G (d + 1) "CoinsLaid$Table" yX8_countOpen cX8_countOpen 8 (some FieldType.int) 16 [(1, aI v1), (2, aI v2), (3, aI v3), (4, aR (some v4)), (5, aI v5), (6, aI v6)] [] σ 0 0 (xM (QI K)) := by
  unfold F_X8_countOpen_16 at hf
  refine r_iload (j := 5) rfl dX8_countOpen_16 ?_
  refine r_iload (j := 4) rfl dX8_countOpen_18 ?_
  refine r_icmpge (x := v6) (y := v5) (tgt := 60) (by decide) dX8_countOpen_20 (fun hc => ?_) (fun hc => ?_)
  · replace hf := hf.1 hc
    refine r_iload_n (j := 2) rfl rfl dX8_countOpen_60 ?_
    exact r_ireturn rfl dX8_countOpen_61 rfl ⟨_, rfl, hf⟩
  · replace hf := hf.2 hc
    refine r_aload (j := 3) rfl dX8_countOpen_23 ?_
    refine r_iload (j := 5) rfl dX8_countOpen_25 ?_
    obtain ⟨N_x1, f_x1, x1, ha_x1, hi_x1, hv_x1, hf⟩ := hf
    refine r_aald3 ha_x1 hi_x1 dX8_countOpen_27 ?_
    rw [hv_x1]
    refine r_astore (L' := [(7, aR (some x1)), (1, aI v1), (2, aI v2), (3, aI v3), (4, aR (some v4)), (5, aI v5), (6, aI v6)]) rfl (Nat.le_of_ble_eq_true rfl) dX8_countOpen_28 ?_
    refine r_aload (j := 0) rfl dX8_countOpen_30 ?_
    refine r_iload_n (j := 1) rfl rfl dX8_countOpen_32 ?_
    try unfold C_X2_hasRoom at hf
    obtain ⟨⟨fs_r3, ha_r3⟩, hf⟩ := hf
    refine r_invVZ (t := 2) (As := [aI v1]) (dz := d) (mz := 0) (sz := 0) rfl wd_4_205 wd_4_83 wd_4_84 cf_X2_hasRoom (Nat.le_refl _) (Nat.zero_le _) (Nat.zero_le _) (cat_ok (Nat.le_of_ble_eq_true rfl)) rfl rfl ha_r3 dX8_countOpen_33 hf (fun r3 σ2 hk => ?_)
    replace hf := hk
    clear hk
    refine r_ifeqZ (b := r3) (tgt := 54) (by decide) dX8_countOpen_36 (fun hc => ?_) (fun hc => ?_)
    · replace hf := hf.1 hc
      exact r_sub [1, 2, 3, 4, 5, 6] rfl (b_X8_countOpen_54 hX16 hf)
    · replace hf := hf.2 hc
      refine r_aload (j := 0) rfl dX8_countOpen_39 ?_
      obtain ⟨fs_x4, x4, ha_x4, hv_x4, hf⟩ := hf
      refine r_get (Cn := RX2) (Tt := TX2) (N := 9) (n := 6) rfl uw_X2 (Nat.le_of_ble_eq_true rfl) wd_4_32 ha_x4 hv_x4 dX8_countOpen_41 ?_
      refine r_iload_n (j := 2) rfl rfl dX8_countOpen_44 ?_
      refine r_ishr (x := x4) (y := v2) dX8_countOpen_45 ?_
      refine r_iconst (v := 1) (by decide) dX8_countOpen_46 ?_
      refine r_iand (x := (x4 >>> (v2 &&& 31))) (y := 1) dX8_countOpen_47 ?_
      refine r_ifeq (x := ((x4 >>> (v2 &&& 31)) &&& 1)) (tgt := 54) (by decide) dX8_countOpen_48 (fun hc => ?_) (fun hc => ?_)
      · replace hf := hf.1 hc
        exact r_sub [1, 2, 3, 4, 5, 6] rfl (b_X8_countOpen_54 hX16 hf)
      · replace hf := hf.2 hc
        refine r_iinc (j := 3) (w := (v3 + 1)) (L' := [(3, aI (v3 + 1)), (7, aR (some x1)), (1, aI v1), (2, aI v2), (4, aR (some v4)), (5, aI v5), (6, aI v6)]) rfl (by rfl) rfl (Nat.le_of_ble_eq_true rfl) dX8_countOpen_51 ?_
        exact r_sub [2, 3, 0, 4, 5, 6] rfl (b_X8_countOpen_54 hX16 hf)
def Z_X8_countOpen_16 (l : Launch) (G : GG) (d : Nat) (K : Int32 → Hp → Prop) : Nat → Int32 → Int32 → Int32 → Nat → Int32 → Int32 → Hp → Prop
  | 0 => fun _ _ _ _ _ _ _ => False
  | n + 1 => fun v1 v2 v3 v4 v5 v6 σ => F_X8_countOpen_16 l G d (Z_X8_countOpen_16 l G d K n) v1 v2 v3 v4 v5 v6 σ K
theorem z_X8_countOpen_16 {l : Launch} {G : GG} {d : Nat} {K : Int32 → Hp → Prop} : ∀ (n : Nat) v1 v2 v3 v4 v5 v6 σ, Z_X8_countOpen_16 l G d K n v1 v2 v3 v4 v5 v6 σ → Wd l G (d + 1) "CoinsLaid$Table" yX8_countOpen cX8_countOpen 8 (some FieldType.int) 16 [(1, aI v1), (2, aI v2), (3, aI v3), (4, aR (some v4)), (5, aI v5), (6, aI v6)] [] σ 0 0 (xM (QI K)) := by
  intro n
  induction n with
  | zero => intro v1 v2 v3 v4 v5 v6 σ hf; exact hf.elim
  | succ n ih => intro v1 v2 v3 v4 v5 v6 σ hf; exact b_X8_countOpen_16 ih hf
def F_X8_countOpen (l : Launch) (G : GG) (d : Nat) (v0 : Nat) (v1 : Int32) (v2 : Int32) (σ : Hp) (K : Int32 → Hp → Prop) : Prop :=
  fN σ v0 8 8 fun x5 =>
  aL σ x5 fun x6 =>
  ∃ n, Z_X8_countOpen_16 l G d K n v1 v2 0 x5 x6 0 σ
set_option maxRecDepth 100000 in
set_option maxHeartbeats 4000000 in
theorem b_X8_countOpen_0 {l : Launch} {G : GG} {d : Nat} {v0 : Nat} {v1 : Int32} {v2 : Int32} {σ : Hp} {K : Int32 → Hp → Prop} (hf : F_X8_countOpen l G d v0 v1 v2 σ K) : Wd l G (d + 1) "CoinsLaid$Table" yX8_countOpen cX8_countOpen 8 (some FieldType.int) 0 [(0, aR (some v0)), (1, aI v1), (2, aI v2)] [] σ 0 0 (xM (QI K)) := by
  unfold F_X8_countOpen at hf
  refine r_iconst (v := 0) (by decide) dX8_countOpen_0 ?_
  refine r_istore_n (L' := [(3, aI 0), (0, aR (some v0)), (1, aI v1), (2, aI v2)]) rfl rfl (Nat.le_of_ble_eq_true rfl) dX8_countOpen_1 ?_
  refine r_aload_n (j := 1) rfl rfl dX8_countOpen_2 ?_
  obtain ⟨fs_x5, x5, ha_x5, hv_x5, hf⟩ := hf
  refine r_get (Cn := RX8) (Tt := TX8) (N := 9) (n := 8) rfl uw_X8 (Nat.le_of_ble_eq_true rfl) wd_2_79 ha_x5 hv_x5 dX8_countOpen_3 ?_
  refine r_astore (L' := [(4, aR (some x5)), (3, aI 0), (0, aR (some v0)), (1, aI v1), (2, aI v2)]) rfl (Nat.le_of_ble_eq_true rfl) dX8_countOpen_6 ?_
  refine r_aload (j := 0) rfl dX8_countOpen_8 ?_
  obtain ⟨t_x6, N_x6, f_x6, ha_x6, hf⟩ := hf
  refine r_alen ha_x6 dX8_countOpen_10 ?_
  generalize nI N_x6 = x6 at hf ⊢
  refine r_istore (L' := [(5, aI x6), (4, aR (some x5)), (3, aI 0), (0, aR (some v0)), (1, aI v1), (2, aI v2)]) rfl (Nat.le_of_ble_eq_true rfl) dX8_countOpen_11 ?_
  refine r_iconst (v := 0) (by decide) dX8_countOpen_13 ?_
  refine r_istore (L' := [(6, aI 0), (5, aI x6), (4, aR (some x5)), (3, aI 0), (0, aR (some v0)), (1, aI v1), (2, aI v2)]) rfl (Nat.le_of_ble_eq_true rfl) dX8_countOpen_14 ?_
  obtain ⟨n, hf⟩ := hf
  exact r_sub [5, 6, 3, 2, 1, 0] rfl (z_X8_countOpen_16 n _ _ _ _ _ _ _ hf)
theorem m_X8_countOpen {l : Launch} {G : GG} {d : Nat} {v0 : Nat} {v1 : Int32} {v2 : Int32} {σ : Hp} {K : Int32 → Hp → Prop} (hr : rv σ v0 8) (hf : F_X8_countOpen l G d v0 v1 v2 σ K) : C_X8_countOpen l G (d + 1) v0 v1 v2 σ K := ⟨hr, Sp.of (by decide) (Nat.le_of_ble_eq_true rfl) (b_X8_countOpen_0 hf) rfl⟩
def F_X8_isHeap_11 (l : Launch) (G : GG) (d : Nat) (X11 : Nat → Int32 → Hp → Prop) (v0 : Nat) (v1 : Int32) (σ : Hp) (K : Bool → Hp → Prop) : Prop :=
  fN σ v0 8 4 fun x1 =>
  C_Jx4a65c_size_8abf5 l G d x1 σ fun r3 σ2 =>
  ((r3 : Int32) ≤ (v1 : Int32) →
    K true σ2) ∧
  (¬ (r3 : Int32) ≤ (v1 : Int32) →
    fN σ2 v0 8 4 fun x4 =>
    C_Jx4a65c_get_915e3 l G d x4 v1 σ2 fun r6 σ5 =>
    rv σ5 r6 5 ∧
    fI σ5 r6 5 6 fun x8 =>
    ((x8 : Int32) = ((-1) : Int32) →
      X11 v0 (v1 + 1) σ5) ∧
    (¬ (x8 : Int32) = ((-1) : Int32) →
      K false σ5))
set_option maxRecDepth 100000 in
set_option maxHeartbeats 4000000 in
theorem b_X8_isHeap_11 {l : Launch} {G : GG} {d : Nat} {X11 : Nat → Int32 → Hp → Prop} {v0 : Nat} {v1 : Int32} {σ : Hp} {K : Bool → Hp → Prop} (hX11 : ∀ v0 v1 σ, X11 v0 v1 σ → Wd l G (d + 1) "CoinsLaid$Table" yX8_isHeap cX8_isHeap 2 (some FieldType.boolean) 11 [(0, aR (some v0)), (1, aI v1)] [] σ 0 0 (xM (QZ K))) (hf : F_X8_isHeap_11 l G d X11 v0 v1 σ K) : Wd l G (d + 1) "CoinsLaid$Table" yX8_isHeap cX8_isHeap 2 (some FieldType.boolean) 11 [(0, aR (some v0)), (1, aI v1)] [] σ 0 0 (xM (QZ K)) := by
  unfold F_X8_isHeap_11 at hf
  refine r_iload_n (j := 1) rfl rfl dX8_isHeap_11 ?_
  refine r_aload_n (j := 0) rfl rfl dX8_isHeap_12 ?_
  obtain ⟨fs_x1, x1, ha_x1, hv_x1, hf⟩ := hf
  refine r_get (Cn := RX8) (Tt := TX8) (N := 9) (n := 4) rfl uw_X8 (Nat.le_of_ble_eq_true rfl) wd_2_66 ha_x1 hv_x1 dX8_isHeap_13 ?_
  try unfold C_Jx4a65c_size_8abf5 at hf
  obtain ⟨⟨fs_r3, ha_r3⟩, hf⟩ := hf
  refine r_invVI (t := 13) (As := []) (dz := d) (mz := 0) (sz := 0) rfl wd_3_13 wd_2_223 wd_2_224 cf_Jx4a65c_size_8abf5 (Nat.le_refl _) (Nat.zero_le _) (Nat.zero_le _) (cat_ok (Nat.le_of_ble_eq_true rfl)) rfl rfl ha_r3 dX8_isHeap_16 hf (fun r3 σ2 hk => ?_)
  replace hf := hk
  clear hk
  refine r_icmpge (x := v1) (y := r3) (tgt := 48) (by decide) dX8_isHeap_19 (fun hc => ?_) (fun hc => ?_)
  · replace hf := hf.1 hc
    refine r_iconst (v := 1) (by decide) dX8_isHeap_48 ?_
    exact r_zreturn (b := true) rfl dX8_isHeap_49 rfl ⟨_, rfl, hf⟩
  · replace hf := hf.2 hc
    refine r_aload_n (j := 0) rfl rfl dX8_isHeap_22 ?_
    obtain ⟨fs_x4, x4, ha_x4, hv_x4, hf⟩ := hf
    refine r_get (Cn := RX8) (Tt := TX8) (N := 9) (n := 4) rfl uw_X8 (Nat.le_of_ble_eq_true rfl) wd_2_66 ha_x4 hv_x4 dX8_isHeap_23 ?_
    refine r_iload_n (j := 1) rfl rfl dX8_isHeap_26 ?_
    try unfold C_Jx4a65c_get_915e3 at hf
    obtain ⟨⟨fs_r6, ha_r6⟩, hf⟩ := hf
    refine r_invVN (t := 13) (As := [aI v1]) (dz := d) (mz := 0) (sz := 0) rfl wd_3_14 wd_3_15 wd_3_16 cf_Jx4a65c_get_915e3 (Nat.le_refl _) (Nat.zero_le _) (Nat.zero_le _) (cat_ok (Nat.le_of_ble_eq_true rfl)) rfl rfl ha_r6 dX8_isHeap_27 hf (fun r6 σ5 hk => ?_)
    replace hf := hk
    clear hk
    obtain ⟨⟨fs_x7, ha_x7⟩, hf⟩ := hf
    refine r_cast (t := 5) rfl wd_3_26 ha_x7 dX8_isHeap_30 ?_
    obtain ⟨fs_x8, x8, ha_x8, hv_x8, hf⟩ := hf
    refine r_get (Cn := RX5) (Tt := TX5) (N := 7) (n := 6) rfl uw_X5 (Nat.le_of_ble_eq_true rfl) wd_3_196 ha_x8 hv_x8 dX8_isHeap_33 ?_
    refine r_iconst (v := (-1)) (by decide) dX8_isHeap_36 ?_
    refine r_icmpeq (x := x8) (y := (-1)) (tgt := 42) (by decide) dX8_isHeap_37 (fun hc => ?_) (fun hc => ?_)
    · replace hf := hf.1 hc
      refine r_iinc (j := 1) (w := (v1 + 1)) (L' := [(1, aI (v1 + 1)), (0, aR (some v0))]) rfl (by rfl) rfl (Nat.le_of_ble_eq_true rfl) dX8_isHeap_42 ?_
      refine r_goto (tgt := 11) (by decide) dX8_isHeap_45 ?_
      exact r_sub [1, 0] rfl (hX11 _ _ _ hf)
    · replace hf := hf.2 hc
      refine r_iconst (v := 0) (by decide) dX8_isHeap_40 ?_
      exact r_zreturn (b := false) rfl dX8_isHeap_41 rfl ⟨_, rfl, hf⟩
def Z_X8_isHeap_11 (l : Launch) (G : GG) (d : Nat) (K : Bool → Hp → Prop) : Nat → Nat → Int32 → Hp → Prop
  | 0 => fun _ _ _ => False
  | n + 1 => fun v0 v1 σ => F_X8_isHeap_11 l G d (Z_X8_isHeap_11 l G d K n) v0 v1 σ K
theorem z_X8_isHeap_11 {l : Launch} {G : GG} {d : Nat} {K : Bool → Hp → Prop} : ∀ (n : Nat) v0 v1 σ, Z_X8_isHeap_11 l G d K n v0 v1 σ → Wd l G (d + 1) "CoinsLaid$Table" yX8_isHeap cX8_isHeap 2 (some FieldType.boolean) 11 [(0, aR (some v0)), (1, aI v1)] [] σ 0 0 (xM (QZ K)) := by
  intro n
  induction n with
  | zero => intro v0 v1 σ hf; exact hf.elim
  | succ n ih => intro v0 v1 σ hf; exact b_X8_isHeap_11 ih hf
def F_X8_isHeap (l : Launch) (G : GG) (d : Nat) (v0 : Nat) (σ : Hp) (K : Bool → Hp → Prop) : Prop :=
  fZ σ v0 8 1 fun x9 =>
  (x9 = false →
    ∃ n, Z_X8_isHeap_11 l G d K n v0 0 σ) ∧
  (x9 = true →
    K false σ)
set_option maxRecDepth 100000 in
set_option maxHeartbeats 4000000 in
theorem b_X8_isHeap_0 {l : Launch} {G : GG} {d : Nat} {v0 : Nat} {σ : Hp} {K : Bool → Hp → Prop} (hf : F_X8_isHeap l G d v0 σ K) : Wd l G (d + 1) "CoinsLaid$Table" yX8_isHeap cX8_isHeap 2 (some FieldType.boolean) 0 [(0, aR (some v0))] [] σ 0 0 (xM (QZ K)) := by
  unfold F_X8_isHeap at hf
  refine r_aload_n (j := 0) rfl rfl dX8_isHeap_0 ?_
  obtain ⟨fs_x9, x9, ha_x9, hv_x9, hf⟩ := hf
  refine r_get (Cn := RX8) (Tt := TX8) (N := 9) (n := 1) rfl uw_X8 (Nat.le_of_ble_eq_true rfl) wd_2_57 ha_x9 hv_x9 dX8_isHeap_1 ?_
  refine r_ifeqZ (b := x9) (tgt := 9) (by decide) dX8_isHeap_4 (fun hc => ?_) (fun hc => ?_)
  · replace hf := hf.1 hc
    refine r_iconst (v := 0) (by decide) dX8_isHeap_9 ?_
    refine r_istore_n (L' := [(1, aI 0), (0, aR (some v0))]) rfl rfl (Nat.le_of_ble_eq_true rfl) dX8_isHeap_10 ?_
    obtain ⟨n, hf⟩ := hf
    exact r_sub [1, 0] rfl (z_X8_isHeap_11 n _ _ _ hf)
  · replace hf := hf.2 hc
    refine r_iconst (v := 0) (by decide) dX8_isHeap_7 ?_
    exact r_zreturn (b := false) rfl dX8_isHeap_8 rfl ⟨_, rfl, hf⟩
theorem m_X8_isHeap {l : Launch} {G : GG} {d : Nat} {v0 : Nat} {σ : Hp} {K : Bool → Hp → Prop} (hr : rv σ v0 8) (hf : F_X8_isHeap l G d v0 σ K) : C_X8_isHeap l G (d + 1) v0 σ K := ⟨hr, Sp.of (by decide) (Nat.le_of_ble_eq_true rfl) (b_X8_isHeap_0 hf) rfl⟩
def F_X8_isSameTurned_43 (l : Launch) (G : GG) (d : Nat) (s0 : Bool) (σ : Hp) (K : Bool → Hp → Prop) : Prop :=
  K s0 σ
set_option maxRecDepth 100000 in
set_option maxHeartbeats 4000000 in
theorem b_X8_isSameTurned_43 {l : Launch} {G : GG} {d : Nat} {s0 : Bool} {σ : Hp} {K : Bool → Hp → Prop} (hf : F_X8_isSameTurned_43 l G d s0 σ K) : Wd l G (d + 1) "CoinsLaid$Table" yX8_isSameTurned cX8_isSameTurned 5 (some FieldType.boolean) 43 [] [aI (bi s0)] σ 0 0 (xM (QZ K)) := by
  unfold F_X8_isSameTurned_43 at hf
  exact r_zreturn (b := s0) rfl dX8_isSameTurned_43 rfl ⟨_, rfl, hf⟩
def F_X8_isSameTurned_42 (l : Launch) (G : GG) (d : Nat) (σ : Hp) (K : Bool → Hp → Prop) : Prop :=
  F_X8_isSameTurned_43 l G d false σ K
set_option maxRecDepth 100000 in
set_option maxHeartbeats 4000000 in
theorem b_X8_isSameTurned_42 {l : Launch} {G : GG} {d : Nat} {σ : Hp} {K : Bool → Hp → Prop} (hf : F_X8_isSameTurned_42 l G d  σ K) : Wd l G (d + 1) "CoinsLaid$Table" yX8_isSameTurned cX8_isSameTurned 5 (some FieldType.boolean) 42 [] [] σ 0 0 (xM (QZ K)) := by
  unfold F_X8_isSameTurned_42 at hf
  refine r_iconst (v := 0) (by decide) dX8_isSameTurned_42 ?_
  exact r_sub [] rfl (b_X8_isSameTurned_43 hf)
def F_X8_isSameTurned (l : Launch) (G : GG) (d : Nat) (v0 : Nat) (v1 : Nat) (v2 : Int32) (σ : Hp) (K : Bool → Hp → Prop) : Prop :=
  fI σ v0 8 6 fun x1 =>
  C_X0_allSquares l G d v1 σ fun r3 σ2 =>
  C_X0_allSquares l G d v1 σ2 fun r5 σ4 =>
  C_X0_turnedHalfRound l G d v1 (x1 &&& r3) σ4 fun r7 σ6 =>
  (¬ (r7 : Int32) = ((x1 &&& r3) : Int32) →
    F_X8_isSameTurned_42 l G d σ6 K) ∧
  ((r7 : Int32) = ((x1 &&& r3) : Int32) →
    C_X0_turnedHalfRound l G d v1 (v2 &&& r5) σ6 fun r9 σ8 =>
    (¬ (r9 : Int32) = ((v2 &&& r5) : Int32) →
      F_X8_isSameTurned_42 l G d σ8 K) ∧
    ((r9 : Int32) = ((v2 &&& r5) : Int32) →
      F_X8_isSameTurned_43 l G d true σ8 K))
set_option maxRecDepth 100000 in
set_option maxHeartbeats 4000000 in
theorem b_X8_isSameTurned_0 {l : Launch} {G : GG} {d : Nat} {v0 : Nat} {v1 : Nat} {v2 : Int32} {σ : Hp} {K : Bool → Hp → Prop} (hf : F_X8_isSameTurned l G d v0 v1 v2 σ K) : Wd l G (d + 1) "CoinsLaid$Table" yX8_isSameTurned cX8_isSameTurned 5 (some FieldType.boolean) 0 [(0, aR (some v0)), (1, aR (some v1)), (2, aI v2)] [] σ 0 0 (xM (QZ K)) := by
  unfold F_X8_isSameTurned at hf
  refine r_aload_n (j := 0) rfl rfl dX8_isSameTurned_0 ?_
  obtain ⟨fs_x1, x1, ha_x1, hv_x1, hf⟩ := hf
  refine r_get (Cn := RX8) (Tt := TX8) (N := 9) (n := 6) rfl uw_X8 (Nat.le_of_ble_eq_true rfl) wd_2_74 ha_x1 hv_x1 dX8_isSameTurned_1 ?_
  refine r_aload_n (j := 1) rfl rfl dX8_isSameTurned_4 ?_
  try unfold C_X0_allSquares at hf
  obtain ⟨⟨fs_r3, ha_r3⟩, hf⟩ := hf
  refine r_invVI (t := 0) (As := []) (dz := d) (mz := 0) (sz := 0) rfl wd_5_103 wd_5_70 wd_5_71 cf_X0_allSquares (Nat.le_refl _) (Nat.zero_le _) (Nat.zero_le _) (cat_ok (Nat.le_of_ble_eq_true rfl)) rfl rfl ha_r3 dX8_isSameTurned_5 hf (fun r3 σ2 hk => ?_)
  replace hf := hk
  clear hk
  refine r_iand (x := x1) (y := r3) dX8_isSameTurned_8 ?_
  refine r_istore_n (L' := [(3, aI (x1 &&& r3)), (0, aR (some v0)), (1, aR (some v1)), (2, aI v2)]) rfl rfl (Nat.le_of_ble_eq_true rfl) dX8_isSameTurned_9 ?_
  refine r_iload_n (j := 3) rfl rfl dX8_isSameTurned_10 ?_
  refine r_aload_n (j := 2) rfl rfl dX8_isSameTurned_11 ?_
  try unfold C_X0_allSquares at hf
  obtain ⟨⟨fs_r5, ha_r5⟩, hf⟩ := hf
  refine r_invVI (t := 0) (As := []) (dz := d) (mz := 0) (sz := 0) rfl wd_5_103 wd_5_70 wd_5_71 cf_X0_allSquares (Nat.le_refl _) (Nat.zero_le _) (Nat.zero_le _) (cat_ok (Nat.le_of_ble_eq_true rfl)) rfl rfl ha_r5 dX8_isSameTurned_12 hf (fun r5 σ4 hk => ?_)
  replace hf := hk
  clear hk
  refine r_iand (x := v2) (y := r5) dX8_isSameTurned_15 ?_
  refine r_istore (L' := [(4, aI (v2 &&& r5)), (3, aI (x1 &&& r3)), (0, aR (some v0)), (1, aR (some v1)), (2, aI v2)]) rfl (Nat.le_of_ble_eq_true rfl) dX8_isSameTurned_16 ?_
  refine r_aload_n (j := 3) rfl rfl dX8_isSameTurned_18 ?_
  refine r_iload_n (j := 1) rfl rfl dX8_isSameTurned_19 ?_
  try unfold C_X0_turnedHalfRound at hf
  obtain ⟨⟨fs_r7, ha_r7⟩, hf⟩ := hf
  refine r_invVI (t := 0) (As := [aI (x1 &&& r3)]) (dz := d) (mz := 0) (sz := 0) rfl wd_4_66 wd_4_67 wd_4_68 cf_X0_turnedHalfRound (Nat.le_refl _) (Nat.zero_le _) (Nat.zero_le _) (cat_ok (Nat.le_of_ble_eq_true rfl)) rfl rfl ha_r7 dX8_isSameTurned_20 hf (fun r7 σ6 hk => ?_)
  replace hf := hk
  clear hk
  refine r_iload_n (j := 1) rfl rfl dX8_isSameTurned_23 ?_
  refine r_icmpne (x := r7) (y := (x1 &&& r3)) (tgt := 42) (by decide) dX8_isSameTurned_24 (fun hc => ?_) (fun hc => ?_)
  · replace hf := hf.1 hc
    exact r_sub [] rfl (b_X8_isSameTurned_42 hf)
  · replace hf := hf.2 hc
    refine r_aload_n (j := 3) rfl rfl dX8_isSameTurned_27 ?_
    refine r_iload (j := 0) rfl dX8_isSameTurned_28 ?_
    try unfold C_X0_turnedHalfRound at hf
    obtain ⟨⟨fs_r9, ha_r9⟩, hf⟩ := hf
    refine r_invVI (t := 0) (As := [aI (v2 &&& r5)]) (dz := d) (mz := 0) (sz := 0) rfl wd_4_66 wd_4_67 wd_4_68 cf_X0_turnedHalfRound (Nat.le_refl _) (Nat.zero_le _) (Nat.zero_le _) (cat_ok (Nat.le_of_ble_eq_true rfl)) rfl rfl ha_r9 dX8_isSameTurned_30 hf (fun r9 σ8 hk => ?_)
    replace hf := hk
    clear hk
    refine r_iload (j := 0) rfl dX8_isSameTurned_33 ?_
    refine r_icmpne (x := r9) (y := (v2 &&& r5)) (tgt := 42) (by decide) dX8_isSameTurned_35 (fun hc => ?_) (fun hc => ?_)
    · replace hf := hf.1 hc
      exact r_sub [] rfl (b_X8_isSameTurned_42 hf)
    · replace hf := hf.2 hc
      refine r_iconst (v := 1) (by decide) dX8_isSameTurned_38 ?_
      refine r_goto (tgt := 43) (by decide) dX8_isSameTurned_39 ?_
      exact r_sub [] rfl (b_X8_isSameTurned_43 hf)
theorem m_X8_isSameTurned {l : Launch} {G : GG} {d : Nat} {v0 : Nat} {v1 : Nat} {v2 : Int32} {σ : Hp} {K : Bool → Hp → Prop} (hr : rv σ v0 8) (hf : F_X8_isSameTurned l G d v0 v1 v2 σ K) : C_X8_isSameTurned l G (d + 1) v0 v1 v2 σ K := ⟨hr, Sp.of (by decide) (Nat.le_of_ble_eq_true rfl) (b_X8_isSameTurned_0 hf) rfl⟩
def F_X8_areAllSameTurned_2 (l : Launch) (G : GG) (d : Nat) (X2 : Nat → Int32 → Int32 → Hp → Prop) (v0 : Nat) (v1 : Int32) (v2 : Int32) (σ : Hp) (K : Bool → Hp → Prop) : Prop :=
  fN σ v0 8 3 fun x1 =>
  C_Jx4a65c_size_8abf5 l G d x1 σ fun r3 σ2 =>
  ((r3 : Int32) ≤ (v2 : Int32) →
    K true σ2) ∧
  (¬ (r3 : Int32) ≤ (v2 : Int32) →
    fN σ2 v0 8 3 fun x4 =>
    C_Jx4a65c_get_915e3 l G d x4 v2 σ2 fun r6 σ5 =>
    rv σ5 r6 0 ∧
    C_X8_isSameTurned l G d v0 r6 v1 σ5 fun r9 σ8 =>
    (r9 = true →
      X2 v0 v1 (v2 + 1) σ8) ∧
    (r9 = false →
      K false σ8))
set_option maxRecDepth 100000 in
set_option maxHeartbeats 4000000 in
theorem b_X8_areAllSameTurned_2 {l : Launch} {G : GG} {d : Nat} {X2 : Nat → Int32 → Int32 → Hp → Prop} {v0 : Nat} {v1 : Int32} {v2 : Int32} {σ : Hp} {K : Bool → Hp → Prop} (hX2 : ∀ v0 v1 v2 σ, X2 v0 v1 v2 σ → Wd l G (d + 1) "CoinsLaid$Table" yX8_areAllSameTurned cX8_areAllSameTurned 3 (some FieldType.boolean) 2 [(0, aR (some v0)), (1, aI v1), (2, aI v2)] [] σ 0 0 (xM (QZ K))) (hf : F_X8_areAllSameTurned_2 l G d X2 v0 v1 v2 σ K) : Wd l G (d + 1) "CoinsLaid$Table" yX8_areAllSameTurned cX8_areAllSameTurned 3 (some FieldType.boolean) 2 [(0, aR (some v0)), (1, aI v1), (2, aI v2)] [] σ 0 0 (xM (QZ K)) := by
  unfold F_X8_areAllSameTurned_2 at hf
  refine r_iload_n (j := 2) rfl rfl dX8_areAllSameTurned_2 ?_
  refine r_aload_n (j := 0) rfl rfl dX8_areAllSameTurned_3 ?_
  obtain ⟨fs_x1, x1, ha_x1, hv_x1, hf⟩ := hf
  refine r_get (Cn := RX8) (Tt := TX8) (N := 9) (n := 3) rfl uw_X8 (Nat.le_of_ble_eq_true rfl) wd_2_62 ha_x1 hv_x1 dX8_areAllSameTurned_4 ?_
  try unfold C_Jx4a65c_size_8abf5 at hf
  obtain ⟨⟨fs_r3, ha_r3⟩, hf⟩ := hf
  refine r_invVI (t := 13) (As := []) (dz := d) (mz := 0) (sz := 0) rfl wd_3_13 wd_2_223 wd_2_224 cf_Jx4a65c_size_8abf5 (Nat.le_refl _) (Nat.zero_le _) (Nat.zero_le _) (cat_ok (Nat.le_of_ble_eq_true rfl)) rfl rfl ha_r3 dX8_areAllSameTurned_7 hf (fun r3 σ2 hk => ?_)
  replace hf := hk
  clear hk
  refine r_icmpge (x := v2) (y := r3) (tgt := 40) (by decide) dX8_areAllSameTurned_10 (fun hc => ?_) (fun hc => ?_)
  · replace hf := hf.1 hc
    refine r_iconst (v := 1) (by decide) dX8_areAllSameTurned_40 ?_
    exact r_zreturn (b := true) rfl dX8_areAllSameTurned_41 rfl ⟨_, rfl, hf⟩
  · replace hf := hf.2 hc
    refine r_aload_n (j := 0) rfl rfl dX8_areAllSameTurned_13 ?_
    refine r_aload_n (j := 0) rfl rfl dX8_areAllSameTurned_14 ?_
    obtain ⟨fs_x4, x4, ha_x4, hv_x4, hf⟩ := hf
    refine r_get (Cn := RX8) (Tt := TX8) (N := 9) (n := 3) rfl uw_X8 (Nat.le_of_ble_eq_true rfl) wd_2_62 ha_x4 hv_x4 dX8_areAllSameTurned_15 ?_
    refine r_iload_n (j := 2) rfl rfl dX8_areAllSameTurned_18 ?_
    try unfold C_Jx4a65c_get_915e3 at hf
    obtain ⟨⟨fs_r6, ha_r6⟩, hf⟩ := hf
    refine r_invVN (t := 13) (As := [aI v2]) (dz := d) (mz := 0) (sz := 0) rfl wd_3_14 wd_3_15 wd_3_16 cf_Jx4a65c_get_915e3 (Nat.le_refl _) (Nat.zero_le _) (Nat.zero_le _) (cat_ok (Nat.le_of_ble_eq_true rfl)) rfl rfl ha_r6 dX8_areAllSameTurned_19 hf (fun r6 σ5 hk => ?_)
    replace hf := hk
    clear hk
    obtain ⟨⟨fs_x7, ha_x7⟩, hf⟩ := hf
    refine r_cast (t := 0) rfl wd_3_31 ha_x7 dX8_areAllSameTurned_22 ?_
    refine r_iload_n (j := 1) rfl rfl dX8_areAllSameTurned_25 ?_
    try unfold C_X8_isSameTurned at hf
    obtain ⟨⟨fs_r9, ha_r9⟩, hf⟩ := hf
    refine r_invVZ (t := 8) (As := [aR (some r6), aI v1]) (dz := d) (mz := 0) (sz := 0) rfl wd_5_99 wd_5_100 wd_5_101 cf_X8_isSameTurned (Nat.le_refl _) (Nat.zero_le _) (Nat.zero_le _) (cat_ok (Nat.le_of_ble_eq_true rfl)) rfl rfl ha_r9 dX8_areAllSameTurned_26 hf (fun r9 σ8 hk => ?_)
    replace hf := hk
    clear hk
    refine r_ifneZ (b := r9) (tgt := 34) (by decide) dX8_areAllSameTurned_29 (fun hc => ?_) (fun hc => ?_)
    · replace hf := hf.1 hc
      refine r_iinc (j := 2) (w := (v2 + 1)) (L' := [(2, aI (v2 + 1)), (0, aR (some v0)), (1, aI v1)]) rfl (by rfl) rfl (Nat.le_of_ble_eq_true rfl) dX8_areAllSameTurned_34 ?_
      refine r_goto (tgt := 2) (by decide) dX8_areAllSameTurned_37 ?_
      exact r_sub [1, 2, 0] rfl (hX2 _ _ _ _ hf)
    · replace hf := hf.2 hc
      refine r_iconst (v := 0) (by decide) dX8_areAllSameTurned_32 ?_
      exact r_zreturn (b := false) rfl dX8_areAllSameTurned_33 rfl ⟨_, rfl, hf⟩
def Z_X8_areAllSameTurned_2 (l : Launch) (G : GG) (d : Nat) (K : Bool → Hp → Prop) : Nat → Nat → Int32 → Int32 → Hp → Prop
  | 0 => fun _ _ _ _ => False
  | n + 1 => fun v0 v1 v2 σ => F_X8_areAllSameTurned_2 l G d (Z_X8_areAllSameTurned_2 l G d K n) v0 v1 v2 σ K
theorem z_X8_areAllSameTurned_2 {l : Launch} {G : GG} {d : Nat} {K : Bool → Hp → Prop} : ∀ (n : Nat) v0 v1 v2 σ, Z_X8_areAllSameTurned_2 l G d K n v0 v1 v2 σ → Wd l G (d + 1) "CoinsLaid$Table" yX8_areAllSameTurned cX8_areAllSameTurned 3 (some FieldType.boolean) 2 [(0, aR (some v0)), (1, aI v1), (2, aI v2)] [] σ 0 0 (xM (QZ K)) := by
  intro n
  induction n with
  | zero => intro v0 v1 v2 σ hf; exact hf.elim
  | succ n ih => intro v0 v1 v2 σ hf; exact b_X8_areAllSameTurned_2 ih hf
def F_X8_areAllSameTurned (l : Launch) (G : GG) (d : Nat) (v0 : Nat) (v1 : Int32) (σ : Hp) (K : Bool → Hp → Prop) : Prop :=
  ∃ n, Z_X8_areAllSameTurned_2 l G d K n v0 v1 0 σ
set_option maxRecDepth 100000 in
set_option maxHeartbeats 4000000 in
theorem b_X8_areAllSameTurned_0 {l : Launch} {G : GG} {d : Nat} {v0 : Nat} {v1 : Int32} {σ : Hp} {K : Bool → Hp → Prop} (hf : F_X8_areAllSameTurned l G d v0 v1 σ K) : Wd l G (d + 1) "CoinsLaid$Table" yX8_areAllSameTurned cX8_areAllSameTurned 3 (some FieldType.boolean) 0 [(0, aR (some v0)), (1, aI v1)] [] σ 0 0 (xM (QZ K)) := by
  unfold F_X8_areAllSameTurned at hf
  refine r_iconst (v := 0) (by decide) dX8_areAllSameTurned_0 ?_
  refine r_istore_n (L' := [(2, aI 0), (0, aR (some v0)), (1, aI v1)]) rfl rfl (Nat.le_of_ble_eq_true rfl) dX8_areAllSameTurned_1 ?_
  obtain ⟨n, hf⟩ := hf
  exact r_sub [1, 2, 0] rfl (z_X8_areAllSameTurned_2 n _ _ _ _ hf)
theorem m_X8_areAllSameTurned {l : Launch} {G : GG} {d : Nat} {v0 : Nat} {v1 : Int32} {σ : Hp} {K : Bool → Hp → Prop} (hr : rv σ v0 8) (hf : F_X8_areAllSameTurned l G d v0 v1 σ K) : C_X8_areAllSameTurned l G (d + 1) v0 v1 σ K := ⟨hr, Sp.of (by decide) (Nat.le_of_ble_eq_true rfl) (b_X8_areAllSameTurned_0 hf) rfl⟩
def F_X8_heldByAcross_15 (l : Launch) (G : GG) (d : Nat) (σ : Hp) (K : Int32 → Hp → Prop) : Prop :=
  K 0 σ
set_option maxRecDepth 100000 in
set_option maxHeartbeats 4000000 in
theorem b_X8_heldByAcross_15 {l : Launch} {G : GG} {d : Nat} {σ : Hp} {K : Int32 → Hp → Prop} (hf : F_X8_heldByAcross_15 l G d  σ K) : Wd l G (d + 1) "CoinsLaid$Table" yX8_heldByAcross cX8_heldByAcross 6 (some FieldType.int) 15 [] [] σ 0 0 (xM (QI K)) := by
  unfold F_X8_heldByAcross_15 at hf
  refine r_iconst (v := 0) (by decide) dX8_heldByAcross_15 ?_
  exact r_ireturn rfl dX8_heldByAcross_16 rfl ⟨_, rfl, hf⟩
def F_X8_heldByAcross_85 (l : Launch) (G : GG) (d : Nat) (X38 : Nat → Int32 → Nat → Int32 → Int32 → Hp → Prop) (v0 : Nat) (v1 : Int32) (v2 : Nat) (v3 : Int32) (v4 : Int32) (σ : Hp) (K : Int32 → Hp → Prop) : Prop :=
  X38 v0 v1 v2 v3 (v4 + 1) σ
set_option maxRecDepth 100000 in
set_option maxHeartbeats 4000000 in
theorem b_X8_heldByAcross_85 {l : Launch} {G : GG} {d : Nat} {X38 : Nat → Int32 → Nat → Int32 → Int32 → Hp → Prop} {v0 : Nat} {v1 : Int32} {v2 : Nat} {v3 : Int32} {v4 : Int32} {σ : Hp} {K : Int32 → Hp → Prop} (hX38 : ∀ v0 v1 v2 v3 v4 σ, X38 v0 v1 v2 v3 v4 σ → Wd l G (d + 1) "CoinsLaid$Table" yX8_heldByAcross cX8_heldByAcross 6 (some FieldType.int) 38 [(0, aR (some v0)), (1, aI v1), (2, aR (some v2)), (3, aI v3), (4, aI v4)] [] σ 0 0 (xM (QI K))) (hf : F_X8_heldByAcross_85 l G d X38 v0 v1 v2 v3 v4 σ K) : Wd l G (d + 1) "CoinsLaid$Table" yX8_heldByAcross cX8_heldByAcross 6 (some FieldType.int) 85 [(0, aR (some v0)), (1, aI v1), (2, aR (some v2)), (3, aI v3), (4, aI v4)] [] σ 0 0 (xM (QI K)) := by
  unfold F_X8_heldByAcross_85 at hf
  refine r_iinc (j := 4) (w := (v4 + 1)) (L' := [(4, aI (v4 + 1)), (0, aR (some v0)), (1, aI v1), (2, aR (some v2)), (3, aI v3)]) rfl (by rfl) rfl (Nat.le_of_ble_eq_true rfl) dX8_heldByAcross_85 ?_
  refine r_goto (tgt := 38) (by decide) dX8_heldByAcross_88 ?_
  exact r_sub [1, 2, 3, 4, 0] rfl (hX38 _ _ _ _ _ _ hf)
def F_X8_heldByAcross_38 (l : Launch) (G : GG) (d : Nat) (X38 : Nat → Int32 → Nat → Int32 → Int32 → Hp → Prop) (v0 : Nat) (v1 : Int32) (v2 : Nat) (v3 : Int32) (v4 : Int32) (σ : Hp) (K : Int32 → Hp → Prop) : Prop :=
  ((v3 : Int32) ≤ (v4 : Int32) →
    K 0 σ) ∧
  (¬ (v3 : Int32) ≤ (v4 : Int32) →
    gN 3 σ v2 v4 fun x1 =>
    C_X2_hasRoom l G d x1 v1 σ fun r3 σ2 =>
    (r3 = false →
      F_X8_heldByAcross_85 l G d X38 v0 v1 v2 v3 v4 σ2 K) ∧
    (r3 = true →
      fR σ2 x1 2 8 fun x4 =>
      (¬ (x4 : Option Nat) = (some x1) →
        F_X8_heldByAcross_85 l G d X38 v0 v1 v2 v3 v4 σ2 K) ∧
      ((x4 : Option Nat) = (some x1) →
        fI σ2 x1 2 6 fun x5 =>
        C_X8_canAnswerAllAcross l G d v0 (v1 ||| x5) σ2 fun r7 σ6 =>
        (r7 = false →
          F_X8_heldByAcross_85 l G d X38 v0 v1 v2 v3 v4 σ6 K) ∧
        (r7 = true →
          K 1 σ6))))
set_option maxRecDepth 100000 in
set_option maxHeartbeats 4000000 in
theorem b_X8_heldByAcross_38 {l : Launch} {G : GG} {d : Nat} {X38 : Nat → Int32 → Nat → Int32 → Int32 → Hp → Prop} {v0 : Nat} {v1 : Int32} {v2 : Nat} {v3 : Int32} {v4 : Int32} {σ : Hp} {K : Int32 → Hp → Prop} (hX38 : ∀ v0 v1 v2 v3 v4 σ, X38 v0 v1 v2 v3 v4 σ → Wd l G (d + 1) "CoinsLaid$Table" yX8_heldByAcross cX8_heldByAcross 6 (some FieldType.int) 38 [(0, aR (some v0)), (1, aI v1), (2, aR (some v2)), (3, aI v3), (4, aI v4)] [] σ 0 0 (xM (QI K))) (hf : F_X8_heldByAcross_38 l G d X38 v0 v1 v2 v3 v4 σ K) : Wd l G (d + 1) "CoinsLaid$Table" yX8_heldByAcross cX8_heldByAcross 6 (some FieldType.int) 38 [(0, aR (some v0)), (1, aI v1), (2, aR (some v2)), (3, aI v3), (4, aI v4)] [] σ 0 0 (xM (QI K)) := by
  unfold F_X8_heldByAcross_38 at hf
  refine r_iload (j := 4) rfl dX8_heldByAcross_38 ?_
  refine r_iload_n (j := 3) rfl rfl dX8_heldByAcross_40 ?_
  refine r_icmpge (x := v4) (y := v3) (tgt := 91) (by decide) dX8_heldByAcross_41 (fun hc => ?_) (fun hc => ?_)
  · replace hf := hf.1 hc
    refine r_iconst (v := 0) (by decide) dX8_heldByAcross_91 ?_
    exact r_ireturn rfl dX8_heldByAcross_92 rfl ⟨_, rfl, hf⟩
  · replace hf := hf.2 hc
    refine r_aload_n (j := 2) rfl rfl dX8_heldByAcross_44 ?_
    refine r_iload (j := 4) rfl dX8_heldByAcross_45 ?_
    obtain ⟨N_x1, f_x1, x1, ha_x1, hi_x1, hv_x1, hf⟩ := hf
    refine r_aald3 ha_x1 hi_x1 dX8_heldByAcross_47 ?_
    rw [hv_x1]
    refine r_astore (L' := [(5, aR (some x1)), (0, aR (some v0)), (1, aI v1), (2, aR (some v2)), (3, aI v3), (4, aI v4)]) rfl (Nat.le_of_ble_eq_true rfl) dX8_heldByAcross_48 ?_
    refine r_aload (j := 0) rfl dX8_heldByAcross_50 ?_
    refine r_iload_n (j := 2) rfl rfl dX8_heldByAcross_52 ?_
    try unfold C_X2_hasRoom at hf
    obtain ⟨⟨fs_r3, ha_r3⟩, hf⟩ := hf
    refine r_invVZ (t := 2) (As := [aI v1]) (dz := d) (mz := 0) (sz := 0) rfl wd_4_205 wd_4_83 wd_4_84 cf_X2_hasRoom (Nat.le_refl _) (Nat.zero_le _) (Nat.zero_le _) (cat_ok (Nat.le_of_ble_eq_true rfl)) rfl rfl ha_r3 dX8_heldByAcross_53 hf (fun r3 σ2 hk => ?_)
    replace hf := hk
    clear hk
    refine r_ifeqZ (b := r3) (tgt := 85) (by decide) dX8_heldByAcross_56 (fun hc => ?_) (fun hc => ?_)
    · replace hf := hf.1 hc
      exact r_sub [1, 2, 3, 4, 5] rfl (b_X8_heldByAcross_85 hX38 hf)
    · replace hf := hf.2 hc
      refine r_aload (j := 0) rfl dX8_heldByAcross_59 ?_
      obtain ⟨fs_x4, x4, ha_x4, hv_x4, hf⟩ := hf
      refine r_get (Cn := RX2) (Tt := TX2) (N := 9) (n := 8) rfl uw_X2 (Nat.le_of_ble_eq_true rfl) wd_4_36 ha_x4 hv_x4 dX8_heldByAcross_61 ?_
      refine r_aload (j := 0) rfl dX8_heldByAcross_64 ?_
      refine r_acmpne (o := x4) (o2 := (some x1)) (tgt := 85) (by decide) dX8_heldByAcross_66 (fun hc => ?_) (fun hc => ?_)
      · replace hf := hf.1 hc
        exact r_sub [1, 2, 3, 4, 5] rfl (b_X8_heldByAcross_85 hX38 hf)
      · replace hf := hf.2 hc
        refine r_aload_n (j := 1) rfl rfl dX8_heldByAcross_69 ?_
        refine r_iload_n (j := 2) rfl rfl dX8_heldByAcross_70 ?_
        refine r_aload (j := 0) rfl dX8_heldByAcross_71 ?_
        obtain ⟨fs_x5, x5, ha_x5, hv_x5, hf⟩ := hf
        refine r_get (Cn := RX2) (Tt := TX2) (N := 9) (n := 6) rfl uw_X2 (Nat.le_of_ble_eq_true rfl) wd_4_32 ha_x5 hv_x5 dX8_heldByAcross_73 ?_
        refine r_ior (x := v1) (y := x5) dX8_heldByAcross_76 ?_
        try unfold C_X8_canAnswerAllAcross at hf
        obtain ⟨⟨fs_r7, ha_r7⟩, hf⟩ := hf
        refine r_invVZ (t := 8) (As := [aI (v1 ||| x5)]) (dz := d) (mz := 0) (sz := 0) rfl wd_5_104 wd_5_106 wd_p_41 cf_X8_canAnswerAllAcross (Nat.le_refl _) (Nat.zero_le _) (Nat.zero_le _) (cat_ok (Nat.le_of_ble_eq_true rfl)) rfl rfl ha_r7 dX8_heldByAcross_77 hf (fun r7 σ6 hk => ?_)
        replace hf := hk
        clear hk
        refine r_ifeqZ (b := r7) (tgt := 85) (by decide) dX8_heldByAcross_80 (fun hc => ?_) (fun hc => ?_)
        · replace hf := hf.1 hc
          exact r_sub [1, 2, 3, 4, 5] rfl (b_X8_heldByAcross_85 hX38 hf)
        · replace hf := hf.2 hc
          refine r_iconst (v := 1) (by decide) dX8_heldByAcross_83 ?_
          exact r_ireturn rfl dX8_heldByAcross_84 rfl ⟨_, rfl, hf⟩
def Z_X8_heldByAcross_38 (l : Launch) (G : GG) (d : Nat) (K : Int32 → Hp → Prop) : Nat → Nat → Int32 → Nat → Int32 → Int32 → Hp → Prop
  | 0 => fun _ _ _ _ _ _ => False
  | n + 1 => fun v0 v1 v2 v3 v4 σ => F_X8_heldByAcross_38 l G d (Z_X8_heldByAcross_38 l G d K n) v0 v1 v2 v3 v4 σ K
theorem z_X8_heldByAcross_38 {l : Launch} {G : GG} {d : Nat} {K : Int32 → Hp → Prop} : ∀ (n : Nat) v0 v1 v2 v3 v4 σ, Z_X8_heldByAcross_38 l G d K n v0 v1 v2 v3 v4 σ → Wd l G (d + 1) "CoinsLaid$Table" yX8_heldByAcross cX8_heldByAcross 6 (some FieldType.int) 38 [(0, aR (some v0)), (1, aI v1), (2, aR (some v2)), (3, aI v3), (4, aI v4)] [] σ 0 0 (xM (QI K)) := by
  intro n
  induction n with
  | zero => intro v0 v1 v2 v3 v4 σ hf; exact hf.elim
  | succ n ih => intro v0 v1 v2 v3 v4 σ hf; exact b_X8_heldByAcross_38 ih hf
def F_X8_heldByAcross (l : Launch) (G : GG) (d : Nat) (v0 : Nat) (v1 : Int32) (σ : Hp) (K : Int32 → Hp → Prop) : Prop :=
  C_X8_isHeap l G d v0 σ fun r9 σ8 =>
  (r9 = false →
    F_X8_heldByAcross_15 l G d σ8 K) ∧
  (r9 = true →
    C_X8_areAllSameTurned l G d v0 v1 σ8 fun r11 σ10 =>
    (r11 = true →
      C_X8_canAnswerAllAcross l G d v0 v1 σ10 fun r13 σ12 =>
      (r13 = false →
        fN σ12 v0 8 8 fun x14 =>
        aL σ12 x14 fun x15 =>
        ∃ n, Z_X8_heldByAcross_38 l G d K n v0 v1 x14 x15 0 σ12) ∧
      (r13 = true →
        K 2 σ12)) ∧
    (r11 = false →
      F_X8_heldByAcross_15 l G d σ10 K))
set_option maxRecDepth 100000 in
set_option maxHeartbeats 4000000 in
theorem b_X8_heldByAcross_0 {l : Launch} {G : GG} {d : Nat} {v0 : Nat} {v1 : Int32} {σ : Hp} {K : Int32 → Hp → Prop} (hf : F_X8_heldByAcross l G d v0 v1 σ K) : Wd l G (d + 1) "CoinsLaid$Table" yX8_heldByAcross cX8_heldByAcross 6 (some FieldType.int) 0 [(0, aR (some v0)), (1, aI v1)] [] σ 0 0 (xM (QI K)) := by
  unfold F_X8_heldByAcross at hf
  refine r_aload_n (j := 0) rfl rfl dX8_heldByAcross_0 ?_
  try unfold C_X8_isHeap at hf
  obtain ⟨⟨fs_r9, ha_r9⟩, hf⟩ := hf
  refine r_invVZ (t := 8) (As := []) (dz := d) (mz := 0) (sz := 0) rfl wd_5_94 wd_5_55 wd_5_56 cf_X8_isHeap (Nat.le_refl _) (Nat.zero_le _) (Nat.zero_le _) (cat_ok (Nat.le_of_ble_eq_true rfl)) rfl rfl ha_r9 dX8_heldByAcross_1 hf (fun r9 σ8 hk => ?_)
  replace hf := hk
  clear hk
  refine r_ifeqZ (b := r9) (tgt := 15) (by decide) dX8_heldByAcross_4 (fun hc => ?_) (fun hc => ?_)
  · replace hf := hf.1 hc
    exact r_sub [] rfl (b_X8_heldByAcross_15 hf)
  · replace hf := hf.2 hc
    refine r_aload_n (j := 0) rfl rfl dX8_heldByAcross_7 ?_
    refine r_iload_n (j := 1) rfl rfl dX8_heldByAcross_8 ?_
    try unfold C_X8_areAllSameTurned at hf
    obtain ⟨⟨fs_r11, ha_r11⟩, hf⟩ := hf
    refine r_invVZ (t := 8) (As := [aI v1]) (dz := d) (mz := 0) (sz := 0) rfl wd_5_95 wd_5_97 wd_p_40 cf_X8_areAllSameTurned (Nat.le_refl _) (Nat.zero_le _) (Nat.zero_le _) (cat_ok (Nat.le_of_ble_eq_true rfl)) rfl rfl ha_r11 dX8_heldByAcross_9 hf (fun r11 σ10 hk => ?_)
    replace hf := hk
    clear hk
    refine r_ifneZ (b := r11) (tgt := 17) (by decide) dX8_heldByAcross_12 (fun hc => ?_) (fun hc => ?_)
    · replace hf := hf.1 hc
      refine r_aload_n (j := 0) rfl rfl dX8_heldByAcross_17 ?_
      refine r_iload_n (j := 1) rfl rfl dX8_heldByAcross_18 ?_
      try unfold C_X8_canAnswerAllAcross at hf
      obtain ⟨⟨fs_r13, ha_r13⟩, hf⟩ := hf
      refine r_invVZ (t := 8) (As := [aI v1]) (dz := d) (mz := 0) (sz := 0) rfl wd_5_104 wd_5_106 wd_p_41 cf_X8_canAnswerAllAcross (Nat.le_refl _) (Nat.zero_le _) (Nat.zero_le _) (cat_ok (Nat.le_of_ble_eq_true rfl)) rfl rfl ha_r13 dX8_heldByAcross_19 hf (fun r13 σ12 hk => ?_)
      replace hf := hk
      clear hk
      refine r_ifeqZ (b := r13) (tgt := 27) (by decide) dX8_heldByAcross_22 (fun hc => ?_) (fun hc => ?_)
      · replace hf := hf.1 hc
        refine r_aload_n (j := 0) rfl rfl dX8_heldByAcross_27 ?_
        obtain ⟨fs_x14, x14, ha_x14, hv_x14, hf⟩ := hf
        refine r_get (Cn := RX8) (Tt := TX8) (N := 9) (n := 8) rfl uw_X8 (Nat.le_of_ble_eq_true rfl) wd_2_79 ha_x14 hv_x14 dX8_heldByAcross_28 ?_
        refine r_astore_n (L' := [(2, aR (some x14)), (0, aR (some v0)), (1, aI v1)]) rfl rfl (Nat.le_of_ble_eq_true rfl) dX8_heldByAcross_31 ?_
        refine r_aload_n (j := 0) rfl rfl dX8_heldByAcross_32 ?_
        obtain ⟨t_x15, N_x15, f_x15, ha_x15, hf⟩ := hf
        refine r_alen ha_x15 dX8_heldByAcross_33 ?_
        generalize nI N_x15 = x15 at hf ⊢
        refine r_istore_n (L' := [(3, aI x15), (2, aR (some x14)), (0, aR (some v0)), (1, aI v1)]) rfl rfl (Nat.le_of_ble_eq_true rfl) dX8_heldByAcross_34 ?_
        refine r_iconst (v := 0) (by decide) dX8_heldByAcross_35 ?_
        refine r_istore (L' := [(4, aI 0), (3, aI x15), (2, aR (some x14)), (0, aR (some v0)), (1, aI v1)]) rfl (Nat.le_of_ble_eq_true rfl) dX8_heldByAcross_36 ?_
        obtain ⟨n, hf⟩ := hf
        exact r_sub [3, 4, 2, 1, 0] rfl (z_X8_heldByAcross_38 n _ _ _ _ _ _ hf)
      · replace hf := hf.2 hc
        refine r_iconst (v := 2) (by decide) dX8_heldByAcross_25 ?_
        exact r_ireturn rfl dX8_heldByAcross_26 rfl ⟨_, rfl, hf⟩
    · replace hf := hf.2 hc
      exact r_sub [] rfl (b_X8_heldByAcross_15 hf)
theorem m_X8_heldByAcross {l : Launch} {G : GG} {d : Nat} {v0 : Nat} {v1 : Int32} {σ : Hp} {K : Int32 → Hp → Prop} (hr : rv σ v0 8) (hf : F_X8_heldByAcross l G d v0 v1 σ K) : C_X8_heldByAcross l G (d + 1) v0 v1 σ K := ⟨hr, Sp.of (by decide) (Nat.le_of_ble_eq_true rfl) (b_X8_heldByAcross_0 hf) rfl⟩
def F_X8_canAnswerAllAcross_57 (l : Launch) (G : GG) (d : Nat) (σ : Hp) (K : Bool → Hp → Prop) : Prop :=
  K false σ
set_option maxRecDepth 100000 in
set_option maxHeartbeats 4000000 in
theorem b_X8_canAnswerAllAcross_57 {l : Launch} {G : GG} {d : Nat} {σ : Hp} {K : Bool → Hp → Prop} (hf : F_X8_canAnswerAllAcross_57 l G d  σ K) : Wd l G (d + 1) "CoinsLaid$Table" yX8_canAnswerAllAcross cX8_canAnswerAllAcross 6 (some FieldType.boolean) 57 [] [] σ 0 0 (xM (QZ K)) := by
  unfold F_X8_canAnswerAllAcross_57 at hf
  refine r_iconst (v := 0) (by decide) dX8_canAnswerAllAcross_57 ?_
  exact r_zreturn (b := false) rfl dX8_canAnswerAllAcross_58 rfl ⟨_, rfl, hf⟩
def F_X8_canAnswerAllAcross_59 (l : Launch) (G : GG) (d : Nat) (X11 : Int32 → Nat → Int32 → Int32 → Hp → Prop) (v1 : Int32) (v2 : Nat) (v3 : Int32) (v4 : Int32) (σ : Hp) (K : Bool → Hp → Prop) : Prop :=
  X11 v1 v2 v3 (v4 + 1) σ
set_option maxRecDepth 100000 in
set_option maxHeartbeats 4000000 in
theorem b_X8_canAnswerAllAcross_59 {l : Launch} {G : GG} {d : Nat} {X11 : Int32 → Nat → Int32 → Int32 → Hp → Prop} {v1 : Int32} {v2 : Nat} {v3 : Int32} {v4 : Int32} {σ : Hp} {K : Bool → Hp → Prop} (hX11 : ∀ v1 v2 v3 v4 σ, X11 v1 v2 v3 v4 σ → Wd l G (d + 1) "CoinsLaid$Table" yX8_canAnswerAllAcross cX8_canAnswerAllAcross 6 (some FieldType.boolean) 11 [(1, aI v1), (2, aR (some v2)), (3, aI v3), (4, aI v4)] [] σ 0 0 (xM (QZ K))) (hf : F_X8_canAnswerAllAcross_59 l G d X11 v1 v2 v3 v4 σ K) : Wd l G (d + 1) "CoinsLaid$Table" yX8_canAnswerAllAcross cX8_canAnswerAllAcross 6 (some FieldType.boolean) 59 [(1, aI v1), (2, aR (some v2)), (3, aI v3), (4, aI v4)] [] σ 0 0 (xM (QZ K)) := by
  unfold F_X8_canAnswerAllAcross_59 at hf
  refine r_iinc (j := 3) (w := (v4 + 1)) (L' := [(4, aI (v4 + 1)), (1, aI v1), (2, aR (some v2)), (3, aI v3)]) rfl (by rfl) rfl (Nat.le_of_ble_eq_true rfl) dX8_canAnswerAllAcross_59 ?_
  refine r_goto (tgt := 11) (by decide) dX8_canAnswerAllAcross_62 ?_
  exact r_sub [1, 2, 3, 0] rfl (hX11 _ _ _ _ _ hf)
def F_X8_canAnswerAllAcross_11 (l : Launch) (G : GG) (d : Nat) (X11 : Int32 → Nat → Int32 → Int32 → Hp → Prop) (v1 : Int32) (v2 : Nat) (v3 : Int32) (v4 : Int32) (σ : Hp) (K : Bool → Hp → Prop) : Prop :=
  ((v3 : Int32) ≤ (v4 : Int32) →
    K true σ) ∧
  (¬ (v3 : Int32) ≤ (v4 : Int32) →
    gN 3 σ v2 v4 fun x1 =>
    C_X2_hasRoom l G d x1 v1 σ fun r3 σ2 =>
    (r3 = false →
      F_X8_canAnswerAllAcross_59 l G d X11 v1 v2 v3 v4 σ2 K) ∧
    (r3 = true →
      fR σ2 x1 2 8 fun x4 =>
      (x4 = none →
        F_X8_canAnswerAllAcross_57 l G d σ2 K) ∧
      (∀ b5, x4 = some b5 →
        fR σ2 x1 2 8 fun x6 =>
        ∃ b7, x6 = some b7 ∧
        fI σ2 b7 2 6 fun x8 =>
        fI σ2 x1 2 7 fun x9 =>
        (((x8 &&& x9) : Int32) = 0 →
          F_X8_canAnswerAllAcross_59 l G d X11 v1 v2 v3 v4 σ2 K) ∧
        (¬ ((x8 &&& x9) : Int32) = 0 →
          F_X8_canAnswerAllAcross_57 l G d σ2 K))))
set_option maxRecDepth 100000 in
set_option maxHeartbeats 4000000 in
theorem b_X8_canAnswerAllAcross_11 {l : Launch} {G : GG} {d : Nat} {X11 : Int32 → Nat → Int32 → Int32 → Hp → Prop} {v1 : Int32} {v2 : Nat} {v3 : Int32} {v4 : Int32} {σ : Hp} {K : Bool → Hp → Prop} (hX11 : ∀ v1 v2 v3 v4 σ, X11 v1 v2 v3 v4 σ → Wd l G (d + 1) "CoinsLaid$Table" yX8_canAnswerAllAcross cX8_canAnswerAllAcross 6 (some FieldType.boolean) 11 [(1, aI v1), (2, aR (some v2)), (3, aI v3), (4, aI v4)] [] σ 0 0 (xM (QZ K))) (hf : F_X8_canAnswerAllAcross_11 l G d X11 v1 v2 v3 v4 σ K) : Wd l G (d + 1) "CoinsLaid$Table" yX8_canAnswerAllAcross cX8_canAnswerAllAcross 6 (some FieldType.boolean) 11 [(1, aI v1), (2, aR (some v2)), (3, aI v3), (4, aI v4)] [] σ 0 0 (xM (QZ K)) := by
  unfold F_X8_canAnswerAllAcross_11 at hf
  refine r_iload (j := 3) rfl dX8_canAnswerAllAcross_11 ?_
  refine r_iload_n (j := 2) rfl rfl dX8_canAnswerAllAcross_13 ?_
  refine r_icmpge (x := v4) (y := v3) (tgt := 65) (by decide) dX8_canAnswerAllAcross_14 (fun hc => ?_) (fun hc => ?_)
  · replace hf := hf.1 hc
    refine r_iconst (v := 1) (by decide) dX8_canAnswerAllAcross_65 ?_
    exact r_zreturn (b := true) rfl dX8_canAnswerAllAcross_66 rfl ⟨_, rfl, hf⟩
  · replace hf := hf.2 hc
    refine r_aload_n (j := 1) rfl rfl dX8_canAnswerAllAcross_17 ?_
    refine r_iload (j := 3) rfl dX8_canAnswerAllAcross_18 ?_
    obtain ⟨N_x1, f_x1, x1, ha_x1, hi_x1, hv_x1, hf⟩ := hf
    refine r_aald3 ha_x1 hi_x1 dX8_canAnswerAllAcross_20 ?_
    rw [hv_x1]
    refine r_astore (L' := [(5, aR (some x1)), (1, aI v1), (2, aR (some v2)), (3, aI v3), (4, aI v4)]) rfl (Nat.le_of_ble_eq_true rfl) dX8_canAnswerAllAcross_21 ?_
    refine r_aload (j := 0) rfl dX8_canAnswerAllAcross_23 ?_
    refine r_iload_n (j := 1) rfl rfl dX8_canAnswerAllAcross_25 ?_
    try unfold C_X2_hasRoom at hf
    obtain ⟨⟨fs_r3, ha_r3⟩, hf⟩ := hf
    refine r_invVZ (t := 2) (As := [aI v1]) (dz := d) (mz := 0) (sz := 0) rfl wd_4_205 wd_4_83 wd_4_84 cf_X2_hasRoom (Nat.le_refl _) (Nat.zero_le _) (Nat.zero_le _) (cat_ok (Nat.le_of_ble_eq_true rfl)) rfl rfl ha_r3 dX8_canAnswerAllAcross_26 hf (fun r3 σ2 hk => ?_)
    replace hf := hk
    clear hk
    refine r_ifeqZ (b := r3) (tgt := 59) (by decide) dX8_canAnswerAllAcross_29 (fun hc => ?_) (fun hc => ?_)
    · replace hf := hf.1 hc
      exact r_sub [1, 2, 3, 4] rfl (b_X8_canAnswerAllAcross_59 hX11 hf)
    · replace hf := hf.2 hc
      refine r_aload (j := 0) rfl dX8_canAnswerAllAcross_32 ?_
      obtain ⟨fs_x4, x4, ha_x4, hv_x4, hf⟩ := hf
      refine r_get (Cn := RX2) (Tt := TX2) (N := 9) (n := 8) rfl uw_X2 (Nat.le_of_ble_eq_true rfl) wd_4_36 ha_x4 hv_x4 dX8_canAnswerAllAcross_34 ?_
      refine r_ifnull (o := x4) (tgt := 57) (by decide) dX8_canAnswerAllAcross_37 (fun hc => ?_) (fun b5 hc => ?_)
      · replace hf := hf.1 hc
        subst hc
        exact r_sub [] rfl (b_X8_canAnswerAllAcross_57 hf)
      · replace hf := hf.2 b5 hc
        subst hc
        refine r_aload (j := 0) rfl dX8_canAnswerAllAcross_40 ?_
        obtain ⟨fs_x6, x6, ha_x6, hv_x6, hf⟩ := hf
        refine r_get (Cn := RX2) (Tt := TX2) (N := 9) (n := 8) rfl uw_X2 (Nat.le_of_ble_eq_true rfl) wd_4_36 ha_x6 hv_x6 dX8_canAnswerAllAcross_42 ?_
        obtain ⟨b7, hb_b7, hf⟩ := hf
        subst hb_b7
        obtain ⟨fs_x8, x8, ha_x8, hv_x8, hf⟩ := hf
        refine r_get (Cn := RX2) (Tt := TX2) (N := 9) (n := 6) rfl uw_X2 (Nat.le_of_ble_eq_true rfl) wd_4_32 ha_x8 hv_x8 dX8_canAnswerAllAcross_45 ?_
        refine r_aload (j := 0) rfl dX8_canAnswerAllAcross_48 ?_
        obtain ⟨fs_x9, x9, ha_x9, hv_x9, hf⟩ := hf
        refine r_get (Cn := RX2) (Tt := TX2) (N := 9) (n := 7) rfl uw_X2 (Nat.le_of_ble_eq_true rfl) wd_4_34 ha_x9 hv_x9 dX8_canAnswerAllAcross_50 ?_
        refine r_iand (x := x8) (y := x9) dX8_canAnswerAllAcross_53 ?_
        refine r_ifeq (x := (x8 &&& x9)) (tgt := 59) (by decide) dX8_canAnswerAllAcross_54 (fun hc => ?_) (fun hc => ?_)
        · replace hf := hf.1 hc
          exact r_sub [1, 2, 3, 4] rfl (b_X8_canAnswerAllAcross_59 hX11 hf)
        · replace hf := hf.2 hc
          exact r_sub [] rfl (b_X8_canAnswerAllAcross_57 hf)
def Z_X8_canAnswerAllAcross_11 (l : Launch) (G : GG) (d : Nat) (K : Bool → Hp → Prop) : Nat → Int32 → Nat → Int32 → Int32 → Hp → Prop
  | 0 => fun _ _ _ _ _ => False
  | n + 1 => fun v1 v2 v3 v4 σ => F_X8_canAnswerAllAcross_11 l G d (Z_X8_canAnswerAllAcross_11 l G d K n) v1 v2 v3 v4 σ K
theorem z_X8_canAnswerAllAcross_11 {l : Launch} {G : GG} {d : Nat} {K : Bool → Hp → Prop} : ∀ (n : Nat) v1 v2 v3 v4 σ, Z_X8_canAnswerAllAcross_11 l G d K n v1 v2 v3 v4 σ → Wd l G (d + 1) "CoinsLaid$Table" yX8_canAnswerAllAcross cX8_canAnswerAllAcross 6 (some FieldType.boolean) 11 [(1, aI v1), (2, aR (some v2)), (3, aI v3), (4, aI v4)] [] σ 0 0 (xM (QZ K)) := by
  intro n
  induction n with
  | zero => intro v1 v2 v3 v4 σ hf; exact hf.elim
  | succ n ih => intro v1 v2 v3 v4 σ hf; exact b_X8_canAnswerAllAcross_11 ih hf
def F_X8_canAnswerAllAcross (l : Launch) (G : GG) (d : Nat) (v0 : Nat) (v1 : Int32) (σ : Hp) (K : Bool → Hp → Prop) : Prop :=
  fN σ v0 8 8 fun x10 =>
  aL σ x10 fun x11 =>
  ∃ n, Z_X8_canAnswerAllAcross_11 l G d K n v1 x10 x11 0 σ
set_option maxRecDepth 100000 in
set_option maxHeartbeats 4000000 in
theorem b_X8_canAnswerAllAcross_0 {l : Launch} {G : GG} {d : Nat} {v0 : Nat} {v1 : Int32} {σ : Hp} {K : Bool → Hp → Prop} (hf : F_X8_canAnswerAllAcross l G d v0 v1 σ K) : Wd l G (d + 1) "CoinsLaid$Table" yX8_canAnswerAllAcross cX8_canAnswerAllAcross 6 (some FieldType.boolean) 0 [(0, aR (some v0)), (1, aI v1)] [] σ 0 0 (xM (QZ K)) := by
  unfold F_X8_canAnswerAllAcross at hf
  refine r_aload_n (j := 0) rfl rfl dX8_canAnswerAllAcross_0 ?_
  obtain ⟨fs_x10, x10, ha_x10, hv_x10, hf⟩ := hf
  refine r_get (Cn := RX8) (Tt := TX8) (N := 9) (n := 8) rfl uw_X8 (Nat.le_of_ble_eq_true rfl) wd_2_79 ha_x10 hv_x10 dX8_canAnswerAllAcross_1 ?_
  refine r_astore_n (L' := [(2, aR (some x10)), (0, aR (some v0)), (1, aI v1)]) rfl rfl (Nat.le_of_ble_eq_true rfl) dX8_canAnswerAllAcross_4 ?_
  refine r_aload_n (j := 0) rfl rfl dX8_canAnswerAllAcross_5 ?_
  obtain ⟨t_x11, N_x11, f_x11, ha_x11, hf⟩ := hf
  refine r_alen ha_x11 dX8_canAnswerAllAcross_6 ?_
  generalize nI N_x11 = x11 at hf ⊢
  refine r_istore_n (L' := [(3, aI x11), (2, aR (some x10)), (0, aR (some v0)), (1, aI v1)]) rfl rfl (Nat.le_of_ble_eq_true rfl) dX8_canAnswerAllAcross_7 ?_
  refine r_iconst (v := 0) (by decide) dX8_canAnswerAllAcross_8 ?_
  refine r_istore (L' := [(4, aI 0), (3, aI x11), (2, aR (some x10)), (0, aR (some v0)), (1, aI v1)]) rfl (Nat.le_of_ble_eq_true rfl) dX8_canAnswerAllAcross_9 ?_
  obtain ⟨n, hf⟩ := hf
  exact r_sub [4, 2, 1, 0] rfl (z_X8_canAnswerAllAcross_11 n _ _ _ _ _ hf)
theorem m_X8_canAnswerAllAcross {l : Launch} {G : GG} {d : Nat} {v0 : Nat} {v1 : Int32} {σ : Hp} {K : Bool → Hp → Prop} (hr : rv σ v0 8) (hf : F_X8_canAnswerAllAcross l G d v0 v1 σ K) : C_X8_canAnswerAllAcross l G (d + 1) v0 v1 σ K := ⟨hr, Sp.of (by decide) (Nat.le_of_ble_eq_true rfl) (b_X8_canAnswerAllAcross_0 hf) rfl⟩
