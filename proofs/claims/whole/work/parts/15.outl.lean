/-! 15.outl: written by wip/whole/gen.py -/
def F_X3_init_21 (l : Launch) (G : GG) (d : Nat) (v0 : Nat) (s0 : Int32) (σ : Hp) (bc bs : Nat) (K : Hp → Prop) : Prop :=
  nI_ σ (2 * s0) bc bs fun N3 q1 σ2 =>
  pF σ2 v0 3 2 (aR (some q1)) fun σ4 =>
  nZ_ σ4 (2 * s0) (bc - 1) (bs - N3) fun N8 q6 σ7 =>
  pF σ7 v0 3 3 (aR (some q6)) fun σ9 =>
  nI_ σ9 (2 * s0) ((bc - 1) - 1) ((bs - N3) - N8) fun N13 q11 σ12 =>
  pF σ12 v0 3 4 (aR (some q11)) fun σ14 =>
  nI_ σ14 (2 * s0) (((bc - 1) - 1) - 1) (((bs - N3) - N8) - N13) fun N18 q16 σ17 =>
  pF σ17 v0 3 5 (aR (some q16)) fun σ19 =>
  nI_ σ19 (2 * s0) ((((bc - 1) - 1) - 1) - 1) ((((bs - N3) - N8) - N13) - N18) fun N23 q21 σ22 =>
  pF σ22 v0 3 6 (aR (some q21)) fun σ24 =>
  nI_ σ24 (2 * s0) (((((bc - 1) - 1) - 1) - 1) - 1) (((((bs - N3) - N8) - N13) - N18) - N23) fun N28 q26 σ27 =>
  pF σ27 v0 3 7 (aR (some q26)) fun σ29 =>
  nJ_ σ29 (2 * s0) ((((((bc - 1) - 1) - 1) - 1) - 1) - 1) ((((((bs - N3) - N8) - N13) - N18) - N23) - N28) fun N33 q31 σ32 =>
  pF σ32 v0 3 8 (aR (some q31)) fun σ34 =>
  nI_ σ34 s0 (((((((bc - 1) - 1) - 1) - 1) - 1) - 1) - 1) (((((((bs - N3) - N8) - N13) - N18) - N23) - N28) - N33) fun N38 q36 σ37 =>
  pF σ37 v0 3 9 (aR (some q36)) fun σ39 =>
  nI_ σ39 s0 ((((((((bc - 1) - 1) - 1) - 1) - 1) - 1) - 1) - 1) ((((((((bs - N3) - N8) - N13) - N18) - N23) - N28) - N33) - N38) fun N43 q41 σ42 =>
  pF σ42 v0 3 10 (aR (some q41)) fun σ44 =>
  K σ44
set_option maxRecDepth 100000 in
set_option maxHeartbeats 4000000 in
theorem b_X3_init_21 {l : Launch} {G : GG} {d : Nat} {v0 : Nat} {s0 : Int32} {σ : Hp} {bc bs : Nat} {K : Hp → Prop} (hf : F_X3_init_21 l G d v0 s0 σ bc bs K) : Wd l G (d + 1) "CoinsLaid$Outlook" yX3_init cX3_init 3 none 21 [(0, aR (some v0))] [aI s0] σ bc bs (xM (QV K)) := by
  unfold F_X3_init_21 at hf
  refine r_istore_n (L' := [(2, aI s0), (0, aR (some v0))]) rfl rfl (Nat.le_of_ble_eq_true rfl) dX3_init_21 ?_
  refine r_aload_n (j := 1) rfl rfl dX3_init_22 ?_
  refine r_iconst (v := 2) (by decide) dX3_init_23 ?_
  refine r_iload_n (j := 0) rfl rfl dX3_init_24 ?_
  refine r_imul (x := 2) (y := s0) dX3_init_25 ?_
  obtain ⟨N3, hn_N3, hl_N3, hbc, hbs, hf⟩ := hf
  refine r_newI wd_1_80 hn_N3 hl_N3 hbc hbs dX3_init_26 (fun q1 hq_q1 => ?_)
  replace hf := hf q1 hq_q1
  refine Eq.mpr (congrArg (fun z => Wd _ _ _ _ _ _ _ _ _ _ _ z _ _ _) (rfl : _ = hset σ q1 (iA N3 fun _ => 0))) ?_
  generalize hset σ q1 (iA N3 fun _ => 0) = σ2 at hf ⊢
  obtain ⟨fs_x5, ha_x5, hf⟩ := hf
  generalize hσ4 : hset σ2 v0 (.inl (3, fs_x5.set 2 (aR (some q1)))) = σ4 at hf
  refine r_putF (Cn := RX3) (Tt := TX3) (N := 11) (n := 2) (v := aR (some q1)) rfl uw_X3 (Nat.le_of_ble_eq_true rfl) wd_1_48 ha_x5 (ty0 := tyX3) tyX3_ok nmX3 rfl rfl rfl (fo_A _ (some q1)) dX3_init_28 ?_
  rw [hσ4]
  refine r_aload_n (j := 1) rfl rfl dX3_init_31 ?_
  refine r_iconst (v := 2) (by decide) dX3_init_32 ?_
  refine r_iload_n (j := 0) rfl rfl dX3_init_33 ?_
  refine r_imul (x := 2) (y := s0) dX3_init_34 ?_
  obtain ⟨N8, hn_N8, hl_N8, hbc, hbs, hf⟩ := hf
  refine r_newZ wd_1_81 hn_N8 hl_N8 hbc hbs dX3_init_35 (fun q6 hq_q6 => ?_)
  replace hf := hf q6 hq_q6
  refine Eq.mpr (congrArg (fun z => Wd _ _ _ _ _ _ _ _ _ _ _ z _ _ _) (rfl : _ = hset σ4 q6 (zA N8 fun _ => false))) ?_
  generalize hset σ4 q6 (zA N8 fun _ => false) = σ7 at hf ⊢
  obtain ⟨fs_x10, ha_x10, hf⟩ := hf
  generalize hσ9 : hset σ7 v0 (.inl (3, fs_x10.set 3 (aR (some q6)))) = σ9 at hf
  refine r_putF (Cn := RX3) (Tt := TX3) (N := 11) (n := 3) (v := aR (some q6)) rfl uw_X3 (Nat.le_of_ble_eq_true rfl) wd_1_49 ha_x10 (ty0 := tyX3) tyX3_ok nmX3 rfl rfl rfl (fo_A _ (some q6)) dX3_init_37 ?_
  rw [hσ9]
  refine r_aload_n (j := 1) rfl rfl dX3_init_40 ?_
  refine r_iconst (v := 2) (by decide) dX3_init_41 ?_
  refine r_iload_n (j := 0) rfl rfl dX3_init_42 ?_
  refine r_imul (x := 2) (y := s0) dX3_init_43 ?_
  obtain ⟨N13, hn_N13, hl_N13, hbc, hbs, hf⟩ := hf
  refine r_newI wd_1_80 hn_N13 hl_N13 hbc hbs dX3_init_44 (fun q11 hq_q11 => ?_)
  replace hf := hf q11 hq_q11
  refine Eq.mpr (congrArg (fun z => Wd _ _ _ _ _ _ _ _ _ _ _ z _ _ _) (rfl : _ = hset σ9 q11 (iA N13 fun _ => 0))) ?_
  generalize hset σ9 q11 (iA N13 fun _ => 0) = σ12 at hf ⊢
  obtain ⟨fs_x15, ha_x15, hf⟩ := hf
  generalize hσ14 : hset σ12 v0 (.inl (3, fs_x15.set 4 (aR (some q11)))) = σ14 at hf
  refine r_putF (Cn := RX3) (Tt := TX3) (N := 11) (n := 4) (v := aR (some q11)) rfl uw_X3 (Nat.le_of_ble_eq_true rfl) wd_1_50 ha_x15 (ty0 := tyX3) tyX3_ok nmX3 rfl rfl rfl (fo_A _ (some q11)) dX3_init_46 ?_
  rw [hσ14]
  refine r_aload_n (j := 1) rfl rfl dX3_init_49 ?_
  refine r_iconst (v := 2) (by decide) dX3_init_50 ?_
  refine r_iload_n (j := 0) rfl rfl dX3_init_51 ?_
  refine r_imul (x := 2) (y := s0) dX3_init_52 ?_
  obtain ⟨N18, hn_N18, hl_N18, hbc, hbs, hf⟩ := hf
  refine r_newI wd_1_80 hn_N18 hl_N18 hbc hbs dX3_init_53 (fun q16 hq_q16 => ?_)
  replace hf := hf q16 hq_q16
  refine Eq.mpr (congrArg (fun z => Wd _ _ _ _ _ _ _ _ _ _ _ z _ _ _) (rfl : _ = hset σ14 q16 (iA N18 fun _ => 0))) ?_
  generalize hset σ14 q16 (iA N18 fun _ => 0) = σ17 at hf ⊢
  obtain ⟨fs_x20, ha_x20, hf⟩ := hf
  generalize hσ19 : hset σ17 v0 (.inl (3, fs_x20.set 5 (aR (some q16)))) = σ19 at hf
  refine r_putF (Cn := RX3) (Tt := TX3) (N := 11) (n := 5) (v := aR (some q16)) rfl uw_X3 (Nat.le_of_ble_eq_true rfl) wd_1_51 ha_x20 (ty0 := tyX3) tyX3_ok nmX3 rfl rfl rfl (fo_A _ (some q16)) dX3_init_55 ?_
  rw [hσ19]
  refine r_aload_n (j := 1) rfl rfl dX3_init_58 ?_
  refine r_iconst (v := 2) (by decide) dX3_init_59 ?_
  refine r_iload_n (j := 0) rfl rfl dX3_init_60 ?_
  refine r_imul (x := 2) (y := s0) dX3_init_61 ?_
  obtain ⟨N23, hn_N23, hl_N23, hbc, hbs, hf⟩ := hf
  refine r_newI wd_1_80 hn_N23 hl_N23 hbc hbs dX3_init_62 (fun q21 hq_q21 => ?_)
  replace hf := hf q21 hq_q21
  refine Eq.mpr (congrArg (fun z => Wd _ _ _ _ _ _ _ _ _ _ _ z _ _ _) (rfl : _ = hset σ19 q21 (iA N23 fun _ => 0))) ?_
  generalize hset σ19 q21 (iA N23 fun _ => 0) = σ22 at hf ⊢
  obtain ⟨fs_x25, ha_x25, hf⟩ := hf
  generalize hσ24 : hset σ22 v0 (.inl (3, fs_x25.set 6 (aR (some q21)))) = σ24 at hf
  refine r_putF (Cn := RX3) (Tt := TX3) (N := 11) (n := 6) (v := aR (some q21)) rfl uw_X3 (Nat.le_of_ble_eq_true rfl) wd_1_52 ha_x25 (ty0 := tyX3) tyX3_ok nmX3 rfl rfl rfl (fo_A _ (some q21)) dX3_init_64 ?_
  rw [hσ24]
  refine r_aload_n (j := 1) rfl rfl dX3_init_67 ?_
  refine r_iconst (v := 2) (by decide) dX3_init_68 ?_
  refine r_iload_n (j := 0) rfl rfl dX3_init_69 ?_
  refine r_imul (x := 2) (y := s0) dX3_init_70 ?_
  obtain ⟨N28, hn_N28, hl_N28, hbc, hbs, hf⟩ := hf
  refine r_newI wd_1_80 hn_N28 hl_N28 hbc hbs dX3_init_71 (fun q26 hq_q26 => ?_)
  replace hf := hf q26 hq_q26
  refine Eq.mpr (congrArg (fun z => Wd _ _ _ _ _ _ _ _ _ _ _ z _ _ _) (rfl : _ = hset σ24 q26 (iA N28 fun _ => 0))) ?_
  generalize hset σ24 q26 (iA N28 fun _ => 0) = σ27 at hf ⊢
  obtain ⟨fs_x30, ha_x30, hf⟩ := hf
  generalize hσ29 : hset σ27 v0 (.inl (3, fs_x30.set 7 (aR (some q26)))) = σ29 at hf
  refine r_putF (Cn := RX3) (Tt := TX3) (N := 11) (n := 7) (v := aR (some q26)) rfl uw_X3 (Nat.le_of_ble_eq_true rfl) wd_1_53 ha_x30 (ty0 := tyX3) tyX3_ok nmX3 rfl rfl rfl (fo_A _ (some q26)) dX3_init_73 ?_
  rw [hσ29]
  refine r_aload_n (j := 1) rfl rfl dX3_init_76 ?_
  refine r_iconst (v := 2) (by decide) dX3_init_77 ?_
  refine r_iload_n (j := 0) rfl rfl dX3_init_78 ?_
  refine r_imul (x := 2) (y := s0) dX3_init_79 ?_
  obtain ⟨N33, hn_N33, hl_N33, hbc, hbs, hf⟩ := hf
  refine r_newJ wd_1_82 hn_N33 hl_N33 hbc hbs dX3_init_80 (fun q31 hq_q31 => ?_)
  replace hf := hf q31 hq_q31
  refine Eq.mpr (congrArg (fun z => Wd _ _ _ _ _ _ _ _ _ _ _ z _ _ _) (rfl : _ = hset σ29 q31 (jA N33 fun _ => 0))) ?_
  generalize hset σ29 q31 (jA N33 fun _ => 0) = σ32 at hf ⊢
  obtain ⟨fs_x35, ha_x35, hf⟩ := hf
  generalize hσ34 : hset σ32 v0 (.inl (3, fs_x35.set 8 (aR (some q31)))) = σ34 at hf
  refine r_putF (Cn := RX3) (Tt := TX3) (N := 11) (n := 8) (v := aR (some q31)) rfl uw_X3 (Nat.le_of_ble_eq_true rfl) wd_1_54 ha_x35 (ty0 := tyX3) tyX3_ok nmX3 rfl rfl rfl (fo_A _ (some q31)) dX3_init_82 ?_
  rw [hσ34]
  refine r_aload_n (j := 1) rfl rfl dX3_init_85 ?_
  refine r_iload_n (j := 0) rfl rfl dX3_init_86 ?_
  obtain ⟨N38, hn_N38, hl_N38, hbc, hbs, hf⟩ := hf
  refine r_newI wd_1_80 hn_N38 hl_N38 hbc hbs dX3_init_87 (fun q36 hq_q36 => ?_)
  replace hf := hf q36 hq_q36
  refine Eq.mpr (congrArg (fun z => Wd _ _ _ _ _ _ _ _ _ _ _ z _ _ _) (rfl : _ = hset σ34 q36 (iA N38 fun _ => 0))) ?_
  generalize hset σ34 q36 (iA N38 fun _ => 0) = σ37 at hf ⊢
  obtain ⟨fs_x40, ha_x40, hf⟩ := hf
  generalize hσ39 : hset σ37 v0 (.inl (3, fs_x40.set 9 (aR (some q36)))) = σ39 at hf
  refine r_putF (Cn := RX3) (Tt := TX3) (N := 11) (n := 9) (v := aR (some q36)) rfl uw_X3 (Nat.le_of_ble_eq_true rfl) wd_1_55 ha_x40 (ty0 := tyX3) tyX3_ok nmX3 rfl rfl rfl (fo_A _ (some q36)) dX3_init_89 ?_
  rw [hσ39]
  refine r_aload_n (j := 1) rfl rfl dX3_init_92 ?_
  refine r_iload_n (j := 0) rfl rfl dX3_init_93 ?_
  obtain ⟨N43, hn_N43, hl_N43, hbc, hbs, hf⟩ := hf
  refine r_newI wd_1_80 hn_N43 hl_N43 hbc hbs dX3_init_94 (fun q41 hq_q41 => ?_)
  replace hf := hf q41 hq_q41
  refine Eq.mpr (congrArg (fun z => Wd _ _ _ _ _ _ _ _ _ _ _ z _ _ _) (rfl : _ = hset σ39 q41 (iA N43 fun _ => 0))) ?_
  generalize hset σ39 q41 (iA N43 fun _ => 0) = σ42 at hf ⊢
  obtain ⟨fs_x45, ha_x45, hf⟩ := hf
  generalize hσ44 : hset σ42 v0 (.inl (3, fs_x45.set 10 (aR (some q41)))) = σ44 at hf
  refine r_putF (Cn := RX3) (Tt := TX3) (N := 11) (n := 10) (v := aR (some q41)) rfl uw_X3 (Nat.le_of_ble_eq_true rfl) wd_1_56 ha_x45 (ty0 := tyX3) tyX3_ok nmX3 rfl rfl rfl (fo_A _ (some q41)) dX3_init_96 ?_
  rw [hσ44]
  exact r_return rfl dX3_init_99 rfl ⟨rfl, hf⟩
def F_X3_init_20 (l : Launch) (G : GG) (d : Nat) (v0 : Nat) (σ : Hp) (bc bs : Nat) (K : Hp → Prop) : Prop :=
  F_X3_init_21 l G d v0 0 σ bc bs K
set_option maxRecDepth 100000 in
set_option maxHeartbeats 4000000 in
theorem b_X3_init_20 {l : Launch} {G : GG} {d : Nat} {v0 : Nat} {σ : Hp} {bc bs : Nat} {K : Hp → Prop} (hf : F_X3_init_20 l G d v0 σ bc bs K) : Wd l G (d + 1) "CoinsLaid$Outlook" yX3_init cX3_init 3 none 20 [(0, aR (some v0))] [] σ bc bs (xM (QV K)) := by
  unfold F_X3_init_20 at hf
  refine r_iconst (v := 0) (by decide) dX3_init_20 ?_
  exact r_sub [0] rfl (b_X3_init_21 hf)
def F_X3_init (l : Launch) (G : GG) (d : Nat) (v0 : Nat) (v1 : Int32) (σ : Hp) (bc bs : Nat) (K : Hp → Prop) : Prop :=
  ((v1 : Int32) < 0 →
    F_X3_init_20 l G d v0 σ bc bs K) ∧
  (¬ (v1 : Int32) < 0 →
    ((14 : Int32) < (v1 : Int32) →
      F_X3_init_20 l G d v0 σ bc bs K) ∧
    (¬ (14 : Int32) < (v1 : Int32) →
      F_X3_init_21 l G d v0 (1 <<< (v1 &&& 31)) σ bc bs K))
set_option maxRecDepth 100000 in
set_option maxHeartbeats 4000000 in
theorem b_X3_init_0 {l : Launch} {G : GG} {d : Nat} {v0 : Nat} {v1 : Int32} {σ : Hp} {bc bs : Nat} {K : Hp → Prop} (hf : F_X3_init l G d v0 v1 σ bc bs K) : Wd l G (d + 1) "CoinsLaid$Outlook" yX3_init cX3_init 3 none 0 [(0, aR (some v0)), (1, aI v1)] [] σ bc bs (xM (QV K)) := by
  unfold F_X3_init at hf
  refine r_aload_n (j := 0) rfl rfl dX3_init_0 ?_
  refine r_objInit wd_1_44 wd_1_37 wd_1_38 (Nat.le_add_left 1 d) (cat_ok (Nat.le_of_ble_eq_true rfl)) dX3_init_1 ?_
  refine r_iload_n (j := 1) rfl rfl dX3_init_4 ?_
  refine r_iflt (x := v1) (tgt := 20) (by decide) dX3_init_5 (fun hc => ?_) (fun hc => ?_)
  · replace hf := hf.1 hc
    exact r_sub [0] rfl (b_X3_init_20 hf)
  · replace hf := hf.2 hc
    refine r_iload_n (j := 1) rfl rfl dX3_init_8 ?_
    refine r_bipush (v := 14) (by decide) dX3_init_9 ?_
    refine r_icmpgt (x := v1) (y := 14) (tgt := 20) (by decide) dX3_init_11 (fun hc => ?_) (fun hc => ?_)
    · replace hf := hf.1 hc
      exact r_sub [0] rfl (b_X3_init_20 hf)
    · replace hf := hf.2 hc
      refine r_iconst (v := 1) (by decide) dX3_init_14 ?_
      refine r_iload_n (j := 1) rfl rfl dX3_init_15 ?_
      refine r_ishl (x := 1) (y := v1) dX3_init_16 ?_
      refine r_goto (tgt := 21) (by decide) dX3_init_17 ?_
      exact r_sub [0] rfl (b_X3_init_21 hf)
theorem m_X3_init {l : Launch} {G : GG} {d : Nat} {mc ms : Nat} {v0 : Nat} {v1 : Int32} {σ : Hp} {K : Hp → Prop} (hf : F_X3_init l G d v0 v1 σ mc ms K) : C_X3_init l G (d + 1) mc ms v0 v1 σ K := Sp.of (by decide) (Nat.le_of_ble_eq_true rfl) (b_X3_init_0 hf) rfl
def F_X3_hasRoomFor_19 (l : Launch) (G : GG) (d : Nat) (s0 : Bool) (σ : Hp) (K : Bool → Hp → Prop) : Prop :=
  K s0 σ
set_option maxRecDepth 100000 in
set_option maxHeartbeats 4000000 in
theorem b_X3_hasRoomFor_19 {l : Launch} {G : GG} {d : Nat} {s0 : Bool} {σ : Hp} {K : Bool → Hp → Prop} (hf : F_X3_hasRoomFor_19 l G d s0 σ K) : Wd l G (d + 1) "CoinsLaid$Outlook" yX3_hasRoomFor cX3_hasRoomFor 2 (some FieldType.boolean) 19 [] [aI (bi s0)] σ 0 0 (xM (QZ K)) := by
  unfold F_X3_hasRoomFor_19 at hf
  exact r_zreturn (b := s0) rfl dX3_hasRoomFor_19 rfl ⟨_, rfl, hf⟩
def F_X3_hasRoomFor (l : Launch) (G : GG) (d : Nat) (v0 : Nat) (v1 : Nat) (σ : Hp) (K : Bool → Hp → Prop) : Prop :=
  fN σ v0 3 10 fun x1 =>
  aL σ x1 fun x2 =>
  fI σ v1 8 5 fun x3 =>
  ((x2 : Int32) < ((1 <<< (x3 &&& 31)) : Int32) →
    F_X3_hasRoomFor_19 l G d false σ K) ∧
  (¬ (x2 : Int32) < ((1 <<< (x3 &&& 31)) : Int32) →
    F_X3_hasRoomFor_19 l G d true σ K)
set_option maxRecDepth 100000 in
set_option maxHeartbeats 4000000 in
theorem b_X3_hasRoomFor_0 {l : Launch} {G : GG} {d : Nat} {v0 : Nat} {v1 : Nat} {σ : Hp} {K : Bool → Hp → Prop} (hf : F_X3_hasRoomFor l G d v0 v1 σ K) : Wd l G (d + 1) "CoinsLaid$Outlook" yX3_hasRoomFor cX3_hasRoomFor 2 (some FieldType.boolean) 0 [(0, aR (some v0)), (1, aR (some v1))] [] σ 0 0 (xM (QZ K)) := by
  unfold F_X3_hasRoomFor at hf
  refine r_aload_n (j := 0) rfl rfl dX3_hasRoomFor_0 ?_
  obtain ⟨fs_x1, x1, ha_x1, hv_x1, hf⟩ := hf
  refine r_get (Cn := RX3) (Tt := TX3) (N := 11) (n := 10) rfl uw_X3 (Nat.le_of_ble_eq_true rfl) wd_1_56 ha_x1 hv_x1 dX3_hasRoomFor_1 ?_
  obtain ⟨t_x2, N_x2, f_x2, ha_x2, hf⟩ := hf
  refine r_alen ha_x2 dX3_hasRoomFor_4 ?_
  generalize nI N_x2 = x2 at hf ⊢
  refine r_iconst (v := 1) (by decide) dX3_hasRoomFor_5 ?_
  refine r_aload_n (j := 1) rfl rfl dX3_hasRoomFor_6 ?_
  obtain ⟨fs_x3, x3, ha_x3, hv_x3, hf⟩ := hf
  refine r_get (Cn := RX8) (Tt := TX8) (N := 9) (n := 5) rfl uw_X8 (Nat.le_of_ble_eq_true rfl) wd_2_69 ha_x3 hv_x3 dX3_hasRoomFor_7 ?_
  refine r_ishl (x := 1) (y := x3) dX3_hasRoomFor_10 ?_
  refine r_icmplt (x := x2) (y := (1 <<< (x3 &&& 31))) (tgt := 18) (by decide) dX3_hasRoomFor_11 (fun hc => ?_) (fun hc => ?_)
  · replace hf := hf.1 hc
    refine r_iconst (v := 0) (by decide) dX3_hasRoomFor_18 ?_
    exact r_sub [] rfl (b_X3_hasRoomFor_19 hf)
  · replace hf := hf.2 hc
    refine r_iconst (v := 1) (by decide) dX3_hasRoomFor_14 ?_
    refine r_goto (tgt := 19) (by decide) dX3_hasRoomFor_15 ?_
    exact r_sub [] rfl (b_X3_hasRoomFor_19 hf)
theorem m_X3_hasRoomFor {l : Launch} {G : GG} {d : Nat} {v0 : Nat} {v1 : Nat} {σ : Hp} {K : Bool → Hp → Prop} (hr : rv σ v0 3) (hf : F_X3_hasRoomFor l G d v0 v1 σ K) : C_X3_hasRoomFor l G (d + 1) v0 v1 σ K := ⟨hr, Sp.of (by decide) (Nat.le_of_ble_eq_true rfl) (b_X3_hasRoomFor_0 hf) rfl⟩
def F_X3_turnTo (l : Launch) (G : GG) (d : Nat) (v0 : Nat) (v1 : Nat) (σ : Hp) (K : Hp → Prop) : Prop :=
  pF σ v0 3 0 (aR (some v1)) fun σ1 =>
  fI σ1 v0 3 1 fun x3 =>
  pF σ1 v0 3 1 (aI (x3 + 1)) fun σ4 =>
  K σ4
set_option maxRecDepth 100000 in
set_option maxHeartbeats 4000000 in
theorem b_X3_turnTo_0 {l : Launch} {G : GG} {d : Nat} {v0 : Nat} {v1 : Nat} {σ : Hp} {K : Hp → Prop} (hf : F_X3_turnTo l G d v0 v1 σ K) : Wd l G (d + 1) "CoinsLaid$Outlook" yX3_turnTo cX3_turnTo 2 none 0 [(0, aR (some v0)), (1, aR (some v1))] [] σ 0 0 (xM (QV K)) := by
  unfold F_X3_turnTo at hf
  refine r_aload_n (j := 0) rfl rfl dX3_turnTo_0 ?_
  refine r_aload_n (j := 1) rfl rfl dX3_turnTo_1 ?_
  obtain ⟨fs_x2, ha_x2, hf⟩ := hf
  generalize hσ1 : hset σ v0 (.inl (3, fs_x2.set 0 (aR (some v1)))) = σ1 at hf
  refine r_put (Cn := RX3) (Tt := TX3) (N := 11) (n := 0) (v := aR (some v1)) rfl uw_X3 (Nat.le_of_ble_eq_true rfl) wd_1_45 ha_x2 (ty0 := tyX3) tyX3_ok nmX3 rfl (fo_R _ (some v1)) dX3_turnTo_2 ?_
  rw [hσ1]
  refine r_aload_n (j := 0) rfl rfl dX3_turnTo_5 ?_
  refine r_dup rfl dX3_turnTo_6 ?_
  obtain ⟨fs_x3, x3, ha_x3, hv_x3, hf⟩ := hf
  refine r_get (Cn := RX3) (Tt := TX3) (N := 11) (n := 1) rfl uw_X3 (Nat.le_of_ble_eq_true rfl) wd_1_47 ha_x3 hv_x3 dX3_turnTo_7 ?_
  refine r_iconst (v := 1) (by decide) dX3_turnTo_10 ?_
  refine r_iadd (x := x3) (y := 1) dX3_turnTo_11 ?_
  obtain ⟨fs_x5, ha_x5, hf⟩ := hf
  generalize hσ4 : hset σ1 v0 (.inl (3, fs_x5.set 1 (aI (x3 + 1)))) = σ4 at hf
  refine r_put (Cn := RX3) (Tt := TX3) (N := 11) (n := 1) (v := aI (x3 + 1)) rfl uw_X3 (Nat.le_of_ble_eq_true rfl) wd_1_47 ha_x5 (ty0 := tyX3) tyX3_ok nmX3 rfl (fo_I (x3 + 1)) dX3_turnTo_12 ?_
  rw [hσ4]
  exact r_return rfl dX3_turnTo_15 rfl ⟨rfl, hf⟩
theorem m_X3_turnTo {l : Launch} {G : GG} {d : Nat} {v0 : Nat} {v1 : Nat} {σ : Hp} {K : Hp → Prop} (hr : rv σ v0 3) (hf : F_X3_turnTo l G d v0 v1 σ K) : C_X3_turnTo l G (d + 1) v0 v1 σ K := ⟨hr, Sp.of (by decide) (Nat.le_of_ble_eq_true rfl) (b_X3_turnTo_0 hf) rfl⟩
def F_X3_isWon_33 (l : Launch) (G : GG) (d : Nat) (s0 : Bool) (σ : Hp) (K : Bool → Hp → Prop) : Prop :=
  K s0 σ
set_option maxRecDepth 100000 in
set_option maxHeartbeats 4000000 in
theorem b_X3_isWon_33 {l : Launch} {G : GG} {d : Nat} {s0 : Bool} {σ : Hp} {K : Bool → Hp → Prop} (hf : F_X3_isWon_33 l G d s0 σ K) : Wd l G (d + 1) "CoinsLaid$Outlook" yX3_isWon cX3_isWon 4 (some FieldType.boolean) 33 [] [aI (bi s0)] σ 0 0 (xM (QZ K)) := by
  unfold F_X3_isWon_33 at hf
  exact r_zreturn (b := s0) rfl dX3_isWon_33 rfl ⟨_, rfl, hf⟩
def F_X3_isWon_32 (l : Launch) (G : GG) (d : Nat) (σ : Hp) (K : Bool → Hp → Prop) : Prop :=
  F_X3_isWon_33 l G d false σ K
set_option maxRecDepth 100000 in
set_option maxHeartbeats 4000000 in
theorem b_X3_isWon_32 {l : Launch} {G : GG} {d : Nat} {σ : Hp} {K : Bool → Hp → Prop} (hf : F_X3_isWon_32 l G d  σ K) : Wd l G (d + 1) "CoinsLaid$Outlook" yX3_isWon cX3_isWon 4 (some FieldType.boolean) 32 [] [] σ 0 0 (xM (QZ K)) := by
  unfold F_X3_isWon_32 at hf
  refine r_iconst (v := 0) (by decide) dX3_isWon_32 ?_
  exact r_sub [] rfl (b_X3_isWon_33 hf)
def F_X3_isWon (l : Launch) (G : GG) (d : Nat) (v0 : Nat) (v1 : Int32) (v2 : Int32) (σ : Hp) (K : Bool → Hp → Prop) : Prop :=
  C_X3_settle l G d v0 v1 v2 0 σ fun σ1 =>
  C_X3_stateOf l G d v0 v1 v2 σ1 fun r4 σ3 =>
  ((r4 : Int32) = ((-1) : Int32) →
    F_X3_isWon_32 l G d σ3 K) ∧
  (¬ (r4 : Int32) = ((-1) : Int32) →
    fN σ3 v0 3 3 fun x5 =>
    gZ σ3 x5 r4 fun x6 =>
    (x6 = false →
      F_X3_isWon_32 l G d σ3 K) ∧
    (x6 = true →
      F_X3_isWon_33 l G d true σ3 K))
set_option maxRecDepth 100000 in
set_option maxHeartbeats 4000000 in
theorem b_X3_isWon_0 {l : Launch} {G : GG} {d : Nat} {v0 : Nat} {v1 : Int32} {v2 : Int32} {σ : Hp} {K : Bool → Hp → Prop} (hf : F_X3_isWon l G d v0 v1 v2 σ K) : Wd l G (d + 1) "CoinsLaid$Outlook" yX3_isWon cX3_isWon 4 (some FieldType.boolean) 0 [(0, aR (some v0)), (1, aI v1), (2, aI v2)] [] σ 0 0 (xM (QZ K)) := by
  unfold F_X3_isWon at hf
  refine r_aload_n (j := 0) rfl rfl dX3_isWon_0 ?_
  refine r_iload_n (j := 1) rfl rfl dX3_isWon_1 ?_
  refine r_iload_n (j := 2) rfl rfl dX3_isWon_2 ?_
  refine r_iconst (v := 0) (by decide) dX3_isWon_3 ?_
  try unfold C_X3_settle at hf
  refine r_invSU (As := [aR (some v0), aI v1, aI v2, aI 0]) (dz := d) (mz := 0) (sz := 0) rfl wd_4_222 wd_4_223 cf_X3_settle (Nat.le_refl _) (Nat.zero_le _) (Nat.zero_le _) (cat_ok (Nat.le_of_ble_eq_true rfl)) dX3_isWon_4 hf (fun σ1 hk => ?_)
  replace hf := hk
  clear hk
  refine r_aload_n (j := 0) rfl rfl dX3_isWon_7 ?_
  refine r_iload_n (j := 1) rfl rfl dX3_isWon_8 ?_
  refine r_iload_n (j := 2) rfl rfl dX3_isWon_9 ?_
  try unfold C_X3_stateOf at hf
  obtain ⟨⟨fs_r4, ha_r4⟩, hf⟩ := hf
  refine r_invVI (t := 3) (As := [aI v1, aI v2]) (dz := d) (mz := 0) (sz := 0) rfl wd_4_225 wd_4_227 wd_p_33 cf_X3_stateOf (Nat.le_refl _) (Nat.zero_le _) (Nat.zero_le _) (cat_ok (Nat.le_of_ble_eq_true rfl)) rfl rfl ha_r4 dX3_isWon_10 hf (fun r4 σ3 hk => ?_)
  replace hf := hk
  clear hk
  refine r_istore_n (L' := [(3, aI r4), (0, aR (some v0)), (1, aI v1), (2, aI v2)]) rfl rfl (Nat.le_of_ble_eq_true rfl) dX3_isWon_13 ?_
  refine r_iload_n (j := 0) rfl rfl dX3_isWon_14 ?_
  refine r_iconst (v := (-1)) (by decide) dX3_isWon_15 ?_
  refine r_icmpeq (x := r4) (y := (-1)) (tgt := 32) (by decide) dX3_isWon_16 (fun hc => ?_) (fun hc => ?_)
  · replace hf := hf.1 hc
    exact r_sub [] rfl (b_X3_isWon_32 hf)
  · replace hf := hf.2 hc
    refine r_aload_n (j := 1) rfl rfl dX3_isWon_19 ?_
    obtain ⟨fs_x5, x5, ha_x5, hv_x5, hf⟩ := hf
    refine r_get (Cn := RX3) (Tt := TX3) (N := 11) (n := 3) rfl uw_X3 (Nat.le_of_ble_eq_true rfl) wd_1_49 ha_x5 hv_x5 dX3_isWon_20 ?_
    refine r_iload_n (j := 0) rfl rfl dX3_isWon_23 ?_
    obtain ⟨N_x6, f_x6, ha_x6, hi_x6, hf⟩ := hf
    refine r_zald ha_x6 hi_x6 dX3_isWon_24 ?_
    generalize f_x6 (r4 : Int32).toNatClampNeg = x6 at hf ⊢
    refine r_ifeqZ (b := x6) (tgt := 32) (by decide) dX3_isWon_25 (fun hc => ?_) (fun hc => ?_)
    · replace hf := hf.1 hc
      exact r_sub [] rfl (b_X3_isWon_32 hf)
    · replace hf := hf.2 hc
      refine r_iconst (v := 1) (by decide) dX3_isWon_28 ?_
      refine r_goto (tgt := 33) (by decide) dX3_isWon_29 ?_
      exact r_sub [] rfl (b_X3_isWon_33 hf)
theorem m_X3_isWon {l : Launch} {G : GG} {d : Nat} {v0 : Nat} {v1 : Int32} {v2 : Int32} {σ : Hp} {K : Bool → Hp → Prop} (hr : rv σ v0 3) (hf : F_X3_isWon l G d v0 v1 v2 σ K) : C_X3_isWon l G (d + 1) v0 v1 v2 σ K := ⟨hr, Sp.of (by decide) (Nat.le_of_ble_eq_true rfl) (b_X3_isWon_0 hf) rfl⟩
def F_X3_measured (l : Launch) (G : GG) (d : Nat) (v0 : Nat) (v1 : Int32) (v2 : Int32) (v3 : Int32) (σ : Hp) (K : Int32 → Hp → Prop) : Prop :=
  C_X3_settle l G d v0 v2 v3 0 σ fun σ1 =>
  C_X3_stateOf l G d v0 v2 v3 σ1 fun r4 σ3 =>
  (¬ (r4 : Int32) = ((-1) : Int32) →
    ((v1 : Int32) = 0 →
      fN σ3 v0 3 4 fun x5 =>
      gI σ3 x5 r4 fun x6 =>
      K x6 σ3) ∧
    ((v1 : Int32) = 1 →
      fN σ3 v0 3 5 fun x7 =>
      gI σ3 x7 r4 fun x8 =>
      K x8 σ3) ∧
    ((v1 : Int32) = 2 →
      fN σ3 v0 3 6 fun x9 =>
      gI σ3 x9 r4 fun x10 =>
      K x10 σ3) ∧
    (¬ (v1 : Int32) = 0 → ¬ (v1 : Int32) = 1 → ¬ (v1 : Int32) = 2 →
      fN σ3 v0 3 7 fun x11 =>
      gI σ3 x11 r4 fun x12 =>
      K x12 σ3)) ∧
  ((r4 : Int32) = ((-1) : Int32) →
    K 0 σ3)
set_option maxRecDepth 100000 in
set_option maxHeartbeats 4000000 in
theorem b_X3_measured_0 {l : Launch} {G : GG} {d : Nat} {v0 : Nat} {v1 : Int32} {v2 : Int32} {v3 : Int32} {σ : Hp} {K : Int32 → Hp → Prop} (hf : F_X3_measured l G d v0 v1 v2 v3 σ K) : Wd l G (d + 1) "CoinsLaid$Outlook" yX3_measured cX3_measured 5 (some FieldType.int) 0 [(0, aR (some v0)), (1, aI v1), (2, aI v2), (3, aI v3)] [] σ 0 0 (xM (QI K)) := by
  unfold F_X3_measured at hf
  refine r_aload_n (j := 0) rfl rfl dX3_measured_0 ?_
  refine r_iload_n (j := 2) rfl rfl dX3_measured_1 ?_
  refine r_iload_n (j := 3) rfl rfl dX3_measured_2 ?_
  refine r_iconst (v := 0) (by decide) dX3_measured_3 ?_
  try unfold C_X3_settle at hf
  refine r_invSU (As := [aR (some v0), aI v2, aI v3, aI 0]) (dz := d) (mz := 0) (sz := 0) rfl wd_4_222 wd_4_223 cf_X3_settle (Nat.le_refl _) (Nat.zero_le _) (Nat.zero_le _) (cat_ok (Nat.le_of_ble_eq_true rfl)) dX3_measured_4 hf (fun σ1 hk => ?_)
  replace hf := hk
  clear hk
  refine r_aload_n (j := 0) rfl rfl dX3_measured_7 ?_
  refine r_iload_n (j := 2) rfl rfl dX3_measured_8 ?_
  refine r_iload_n (j := 3) rfl rfl dX3_measured_9 ?_
  try unfold C_X3_stateOf at hf
  obtain ⟨⟨fs_r4, ha_r4⟩, hf⟩ := hf
  refine r_invVI (t := 3) (As := [aI v2, aI v3]) (dz := d) (mz := 0) (sz := 0) rfl wd_4_225 wd_4_227 wd_p_33 cf_X3_stateOf (Nat.le_refl _) (Nat.zero_le _) (Nat.zero_le _) (cat_ok (Nat.le_of_ble_eq_true rfl)) rfl rfl ha_r4 dX3_measured_10 hf (fun r4 σ3 hk => ?_)
  replace hf := hk
  clear hk
  refine r_istore (L' := [(4, aI r4), (0, aR (some v0)), (1, aI v1), (2, aI v2), (3, aI v3)]) rfl (Nat.le_of_ble_eq_true rfl) dX3_measured_13 ?_
  refine r_iload (j := 0) rfl dX3_measured_15 ?_
  refine r_iconst (v := (-1)) (by decide) dX3_measured_17 ?_
  refine r_icmpne (x := r4) (y := (-1)) (tgt := 23) (by decide) dX3_measured_18 (fun hc => ?_) (fun hc => ?_)
  · replace hf := hf.1 hc
    refine r_iload_n (j := 2) rfl rfl dX3_measured_23 ?_
    by_cases hc0 : (v1 : Int32) = 0
    · replace hf := hf.1 hc0
      refine r_tabIn (tgt := 52) (off := 28) (by rw [hc0]; decide) (by rw [hc0]; decide) (by rw [hc0]; decide) (by decide) dX3_measured_24 ?_
      refine r_aload_n (j := 1) rfl rfl dX3_measured_52 ?_
      obtain ⟨fs_x5, x5, ha_x5, hv_x5, hf⟩ := hf
      refine r_get (Cn := RX3) (Tt := TX3) (N := 11) (n := 4) rfl uw_X3 (Nat.le_of_ble_eq_true rfl) wd_1_50 ha_x5 hv_x5 dX3_measured_53 ?_
      refine r_iload (j := 0) rfl dX3_measured_56 ?_
      obtain ⟨N_x6, f_x6, ha_x6, hi_x6, hf⟩ := hf
      refine r_iald ha_x6 hi_x6 dX3_measured_58 ?_
      generalize f_x6 (r4 : Int32).toNatClampNeg = x6 at hf ⊢
      exact r_ireturn rfl dX3_measured_59 rfl ⟨_, rfl, hf⟩
    by_cases hc1 : (v1 : Int32) = 1
    · replace hf := hf.2.1 hc1
      refine r_tabIn (tgt := 60) (off := 36) (by rw [hc1]; decide) (by rw [hc1]; decide) (by rw [hc1]; decide) (by decide) dX3_measured_24 ?_
      refine r_aload_n (j := 1) rfl rfl dX3_measured_60 ?_
      obtain ⟨fs_x7, x7, ha_x7, hv_x7, hf⟩ := hf
      refine r_get (Cn := RX3) (Tt := TX3) (N := 11) (n := 5) rfl uw_X3 (Nat.le_of_ble_eq_true rfl) wd_1_51 ha_x7 hv_x7 dX3_measured_61 ?_
      refine r_iload (j := 0) rfl dX3_measured_64 ?_
      obtain ⟨N_x8, f_x8, ha_x8, hi_x8, hf⟩ := hf
      refine r_iald ha_x8 hi_x8 dX3_measured_66 ?_
      generalize f_x8 (r4 : Int32).toNatClampNeg = x8 at hf ⊢
      exact r_ireturn rfl dX3_measured_67 rfl ⟨_, rfl, hf⟩
    by_cases hc2 : (v1 : Int32) = 2
    · replace hf := hf.2.2.1 hc2
      refine r_tabIn (tgt := 68) (off := 44) (by rw [hc2]; decide) (by rw [hc2]; decide) (by rw [hc2]; decide) (by decide) dX3_measured_24 ?_
      refine r_aload_n (j := 1) rfl rfl dX3_measured_68 ?_
      obtain ⟨fs_x9, x9, ha_x9, hv_x9, hf⟩ := hf
      refine r_get (Cn := RX3) (Tt := TX3) (N := 11) (n := 6) rfl uw_X3 (Nat.le_of_ble_eq_true rfl) wd_1_52 ha_x9 hv_x9 dX3_measured_69 ?_
      refine r_iload (j := 0) rfl dX3_measured_72 ?_
      obtain ⟨N_x10, f_x10, ha_x10, hi_x10, hf⟩ := hf
      refine r_iald ha_x10 hi_x10 dX3_measured_74 ?_
      generalize f_x10 (r4 : Int32).toNatClampNeg = x10 at hf ⊢
      exact r_ireturn rfl dX3_measured_75 rfl ⟨_, rfl, hf⟩
    replace hf := hf.2.2.2 hc0 hc1 hc2
    refine r_tabOut (x := v1) (tgt := 76) (tab_out (tab_cons (lo' := 1) (tab_ne hc0 (by decide)) (by decide) (tab_cons (lo' := 2) (tab_ne hc1 (by decide)) (by decide) (tab_cons (lo' := 3) (tab_ne hc2 (by decide)) (by decide) (tab_nil (by decide)))))) (by decide) dX3_measured_24 ?_
    refine r_aload_n (j := 1) rfl rfl dX3_measured_76 ?_
    obtain ⟨fs_x11, x11, ha_x11, hv_x11, hf⟩ := hf
    refine r_get (Cn := RX3) (Tt := TX3) (N := 11) (n := 7) rfl uw_X3 (Nat.le_of_ble_eq_true rfl) wd_1_53 ha_x11 hv_x11 dX3_measured_77 ?_
    refine r_iload (j := 0) rfl dX3_measured_80 ?_
    obtain ⟨N_x12, f_x12, ha_x12, hi_x12, hf⟩ := hf
    refine r_iald ha_x12 hi_x12 dX3_measured_82 ?_
    generalize f_x12 (r4 : Int32).toNatClampNeg = x12 at hf ⊢
    exact r_ireturn rfl dX3_measured_83 rfl ⟨_, rfl, hf⟩
  · replace hf := hf.2 hc
    refine r_iconst (v := 0) (by decide) dX3_measured_21 ?_
    exact r_ireturn rfl dX3_measured_22 rfl ⟨_, rfl, hf⟩
theorem m_X3_measured {l : Launch} {G : GG} {d : Nat} {v0 : Nat} {v1 : Int32} {v2 : Int32} {v3 : Int32} {σ : Hp} {K : Int32 → Hp → Prop} (hr : rv σ v0 3) (hf : F_X3_measured l G d v0 v1 v2 v3 σ K) : C_X3_measured l G (d + 1) v0 v1 v2 v3 σ K := ⟨hr, Sp.of (by decide) (Nat.le_of_ble_eq_true rfl) (b_X3_measured_0 hf) rfl⟩
def F_X3_rowsOfLays_29 (l : Launch) (G : GG) (d : Nat) (s0 : Int64) (σ : Hp) (K : Int64 → Hp → Prop) : Prop :=
  K s0 σ
set_option maxRecDepth 100000 in
set_option maxHeartbeats 4000000 in
theorem b_X3_rowsOfLays_29 {l : Launch} {G : GG} {d : Nat} {s0 : Int64} {σ : Hp} {K : Int64 → Hp → Prop} (hf : F_X3_rowsOfLays_29 l G d s0 σ K) : Wd l G (d + 1) "CoinsLaid$Outlook" yX3_rowsOfLays cX3_rowsOfLays 4 (some FieldType.long) 29 [] [aJ s0] σ 0 0 (xM (QJ K)) := by
  unfold F_X3_rowsOfLays_29 at hf
  exact r_lreturn rfl dX3_rowsOfLays_29 rfl ⟨_, rfl, hf⟩
def F_X3_rowsOfLays (l : Launch) (G : GG) (d : Nat) (v0 : Nat) (v1 : Int32) (v2 : Int32) (σ : Hp) (K : Int64 → Hp → Prop) : Prop :=
  C_X3_settle l G d v0 v1 v2 0 σ fun σ1 =>
  C_X3_stateOf l G d v0 v1 v2 σ1 fun r4 σ3 =>
  (¬ (r4 : Int32) = ((-1) : Int32) →
    fN σ3 v0 3 8 fun x5 =>
    gJ σ3 x5 r4 fun x6 =>
    F_X3_rowsOfLays_29 l G d x6 σ3 K) ∧
  ((r4 : Int32) = ((-1) : Int32) →
    F_X3_rowsOfLays_29 l G d (0 : Int64) σ3 K)
set_option maxRecDepth 100000 in
set_option maxHeartbeats 4000000 in
theorem b_X3_rowsOfLays_0 {l : Launch} {G : GG} {d : Nat} {v0 : Nat} {v1 : Int32} {v2 : Int32} {σ : Hp} {K : Int64 → Hp → Prop} (hf : F_X3_rowsOfLays l G d v0 v1 v2 σ K) : Wd l G (d + 1) "CoinsLaid$Outlook" yX3_rowsOfLays cX3_rowsOfLays 4 (some FieldType.long) 0 [(0, aR (some v0)), (1, aI v1), (2, aI v2)] [] σ 0 0 (xM (QJ K)) := by
  unfold F_X3_rowsOfLays at hf
  refine r_aload_n (j := 0) rfl rfl dX3_rowsOfLays_0 ?_
  refine r_iload_n (j := 1) rfl rfl dX3_rowsOfLays_1 ?_
  refine r_iload_n (j := 2) rfl rfl dX3_rowsOfLays_2 ?_
  refine r_iconst (v := 0) (by decide) dX3_rowsOfLays_3 ?_
  try unfold C_X3_settle at hf
  refine r_invSU (As := [aR (some v0), aI v1, aI v2, aI 0]) (dz := d) (mz := 0) (sz := 0) rfl wd_4_222 wd_4_223 cf_X3_settle (Nat.le_refl _) (Nat.zero_le _) (Nat.zero_le _) (cat_ok (Nat.le_of_ble_eq_true rfl)) dX3_rowsOfLays_4 hf (fun σ1 hk => ?_)
  replace hf := hk
  clear hk
  refine r_aload_n (j := 0) rfl rfl dX3_rowsOfLays_7 ?_
  refine r_iload_n (j := 1) rfl rfl dX3_rowsOfLays_8 ?_
  refine r_iload_n (j := 2) rfl rfl dX3_rowsOfLays_9 ?_
  try unfold C_X3_stateOf at hf
  obtain ⟨⟨fs_r4, ha_r4⟩, hf⟩ := hf
  refine r_invVI (t := 3) (As := [aI v1, aI v2]) (dz := d) (mz := 0) (sz := 0) rfl wd_4_225 wd_4_227 wd_p_33 cf_X3_stateOf (Nat.le_refl _) (Nat.zero_le _) (Nat.zero_le _) (cat_ok (Nat.le_of_ble_eq_true rfl)) rfl rfl ha_r4 dX3_rowsOfLays_10 hf (fun r4 σ3 hk => ?_)
  replace hf := hk
  clear hk
  refine r_istore_n (L' := [(3, aI r4), (0, aR (some v0)), (1, aI v1), (2, aI v2)]) rfl rfl (Nat.le_of_ble_eq_true rfl) dX3_rowsOfLays_13 ?_
  refine r_iload_n (j := 0) rfl rfl dX3_rowsOfLays_14 ?_
  refine r_iconst (v := (-1)) (by decide) dX3_rowsOfLays_15 ?_
  refine r_icmpne (x := r4) (y := (-1)) (tgt := 23) (by decide) dX3_rowsOfLays_16 (fun hc => ?_) (fun hc => ?_)
  · replace hf := hf.1 hc
    refine r_aload_n (j := 1) rfl rfl dX3_rowsOfLays_23 ?_
    obtain ⟨fs_x5, x5, ha_x5, hv_x5, hf⟩ := hf
    refine r_get (Cn := RX3) (Tt := TX3) (N := 11) (n := 8) rfl uw_X3 (Nat.le_of_ble_eq_true rfl) wd_1_54 ha_x5 hv_x5 dX3_rowsOfLays_24 ?_
    refine r_iload_n (j := 0) rfl rfl dX3_rowsOfLays_27 ?_
    obtain ⟨N_x6, f_x6, ha_x6, hi_x6, hf⟩ := hf
    refine r_lald ha_x6 hi_x6 dX3_rowsOfLays_28 ?_
    generalize f_x6 (r4 : Int32).toNatClampNeg = x6 at hf ⊢
    exact r_sub [] rfl (b_X3_rowsOfLays_29 hf)
  · replace hf := hf.2 hc
    refine r_lconst (v := 0) (by decide) dX3_rowsOfLays_19 ?_
    refine r_goto (tgt := 29) (by decide) dX3_rowsOfLays_20 ?_
    exact r_sub [] rfl (b_X3_rowsOfLays_29 hf)
theorem m_X3_rowsOfLays {l : Launch} {G : GG} {d : Nat} {v0 : Nat} {v1 : Int32} {v2 : Int32} {σ : Hp} {K : Int64 → Hp → Prop} (hr : rv σ v0 3) (hf : F_X3_rowsOfLays l G d v0 v1 v2 σ K) : C_X3_rowsOfLays l G (d + 1) v0 v1 v2 σ K := ⟨hr, Sp.of (by decide) (Nat.le_of_ble_eq_true rfl) (b_X3_rowsOfLays_0 hf) rfl⟩
def F_X3_firstWinning_67 (l : Launch) (G : GG) (d : Nat) (X24 : Nat → Int32 → Int32 → Nat → Int32 → Int32 → Hp → Prop) (v0 : Nat) (v1 : Int32) (v2 : Int32) (v3 : Nat) (v4 : Int32) (v5 : Int32) (σ : Hp) (K : Option Nat → Hp → Prop) : Prop :=
  X24 v0 v1 v2 v3 v4 (v5 + 1) σ
set_option maxRecDepth 100000 in
set_option maxHeartbeats 4000000 in
theorem b_X3_firstWinning_67 {l : Launch} {G : GG} {d : Nat} {X24 : Nat → Int32 → Int32 → Nat → Int32 → Int32 → Hp → Prop} {v0 : Nat} {v1 : Int32} {v2 : Int32} {v3 : Nat} {v4 : Int32} {v5 : Int32} {σ : Hp} {K : Option Nat → Hp → Prop} (hX24 : ∀ v0 v1 v2 v3 v4 v5 σ, X24 v0 v1 v2 v3 v4 v5 σ → Wd l G (d + 1) "CoinsLaid$Outlook" yX3_firstWinning cX3_firstWinning 7 (some (FieldType.object "CoinsLaid$Lay")) 24 [(0, aR (some v0)), (1, aI v1), (2, aI v2), (3, aR (some v3)), (4, aI v4), (5, aI v5)] [] σ 0 0 (xM (QR K))) (hf : F_X3_firstWinning_67 l G d X24 v0 v1 v2 v3 v4 v5 σ K) : Wd l G (d + 1) "CoinsLaid$Outlook" yX3_firstWinning cX3_firstWinning 7 (some (FieldType.object "CoinsLaid$Lay")) 67 [(0, aR (some v0)), (1, aI v1), (2, aI v2), (3, aR (some v3)), (4, aI v4), (5, aI v5)] [] σ 0 0 (xM (QR K)) := by
  unfold F_X3_firstWinning_67 at hf
  refine r_iinc (j := 5) (w := (v5 + 1)) (L' := [(5, aI (v5 + 1)), (0, aR (some v0)), (1, aI v1), (2, aI v2), (3, aR (some v3)), (4, aI v4)]) rfl (by rfl) rfl (Nat.le_of_ble_eq_true rfl) dX3_firstWinning_67 ?_
  refine r_goto (tgt := 24) (by decide) dX3_firstWinning_70 ?_
  exact r_sub [1, 2, 3, 4, 5, 0] rfl (hX24 _ _ _ _ _ _ _ hf)
def F_X3_firstWinning_24 (l : Launch) (G : GG) (d : Nat) (X24 : Nat → Int32 → Int32 → Nat → Int32 → Int32 → Hp → Prop) (v0 : Nat) (v1 : Int32) (v2 : Int32) (v3 : Nat) (v4 : Int32) (v5 : Int32) (σ : Hp) (K : Option Nat → Hp → Prop) : Prop :=
  ((v4 : Int32) ≤ (v5 : Int32) →
    K none σ) ∧
  (¬ (v4 : Int32) ≤ (v5 : Int32) →
    gN 3 σ v3 v5 fun x1 =>
    C_X2_mayBe l G d x1 v1 v2 σ fun r3 σ2 =>
    (r3 = false →
      F_X3_firstWinning_67 l G d X24 v0 v1 v2 v3 v4 v5 σ2 K) ∧
    (r3 = true →
      fI σ2 x1 2 6 fun x4 =>
      C_X3_isWon l G d v0 (v1 ||| x4) (1 - v2) σ2 fun r6 σ5 =>
      (r6 = true →
        F_X3_firstWinning_67 l G d X24 v0 v1 v2 v3 v4 v5 σ5 K) ∧
      (r6 = false →
        K (some x1) σ5)))
set_option maxRecDepth 100000 in
set_option maxHeartbeats 4000000 in
theorem b_X3_firstWinning_24 {l : Launch} {G : GG} {d : Nat} {X24 : Nat → Int32 → Int32 → Nat → Int32 → Int32 → Hp → Prop} {v0 : Nat} {v1 : Int32} {v2 : Int32} {v3 : Nat} {v4 : Int32} {v5 : Int32} {σ : Hp} {K : Option Nat → Hp → Prop} (hX24 : ∀ v0 v1 v2 v3 v4 v5 σ, X24 v0 v1 v2 v3 v4 v5 σ → Wd l G (d + 1) "CoinsLaid$Outlook" yX3_firstWinning cX3_firstWinning 7 (some (FieldType.object "CoinsLaid$Lay")) 24 [(0, aR (some v0)), (1, aI v1), (2, aI v2), (3, aR (some v3)), (4, aI v4), (5, aI v5)] [] σ 0 0 (xM (QR K))) (hf : F_X3_firstWinning_24 l G d X24 v0 v1 v2 v3 v4 v5 σ K) : Wd l G (d + 1) "CoinsLaid$Outlook" yX3_firstWinning cX3_firstWinning 7 (some (FieldType.object "CoinsLaid$Lay")) 24 [(0, aR (some v0)), (1, aI v1), (2, aI v2), (3, aR (some v3)), (4, aI v4), (5, aI v5)] [] σ 0 0 (xM (QR K)) := by
  unfold F_X3_firstWinning_24 at hf
  refine r_iload (j := 5) rfl dX3_firstWinning_24 ?_
  refine r_iload (j := 4) rfl dX3_firstWinning_26 ?_
  refine r_icmpge (x := v5) (y := v4) (tgt := 73) (by decide) dX3_firstWinning_28 (fun hc => ?_) (fun hc => ?_)
  · replace hf := hf.1 hc
    refine r_null dX3_firstWinning_73 ?_
    exact r_areturn rfl (Or.inl ⟨_, rfl⟩) dX3_firstWinning_74 rfl ⟨_, rfl, hf⟩
  · replace hf := hf.2 hc
    refine r_aload_n (j := 3) rfl rfl dX3_firstWinning_31 ?_
    refine r_iload (j := 5) rfl dX3_firstWinning_32 ?_
    obtain ⟨N_x1, f_x1, x1, ha_x1, hi_x1, hv_x1, hf⟩ := hf
    refine r_aald3 ha_x1 hi_x1 dX3_firstWinning_34 ?_
    rw [hv_x1]
    refine r_astore (L' := [(6, aR (some x1)), (0, aR (some v0)), (1, aI v1), (2, aI v2), (3, aR (some v3)), (4, aI v4), (5, aI v5)]) rfl (Nat.le_of_ble_eq_true rfl) dX3_firstWinning_35 ?_
    refine r_aload (j := 0) rfl dX3_firstWinning_37 ?_
    refine r_iload_n (j := 2) rfl rfl dX3_firstWinning_39 ?_
    refine r_iload_n (j := 3) rfl rfl dX3_firstWinning_40 ?_
    try unfold C_X2_mayBe at hf
    obtain ⟨⟨fs_r3, ha_r3⟩, hf⟩ := hf
    refine r_invVZ (t := 2) (As := [aI v1, aI v2]) (dz := d) (mz := 0) (sz := 0) rfl wd_4_233 wd_4_79 wd_4_80 cf_X2_mayBe (Nat.le_refl _) (Nat.zero_le _) (Nat.zero_le _) (cat_ok (Nat.le_of_ble_eq_true rfl)) rfl rfl ha_r3 dX3_firstWinning_41 hf (fun r3 σ2 hk => ?_)
    replace hf := hk
    clear hk
    refine r_ifeqZ (b := r3) (tgt := 67) (by decide) dX3_firstWinning_44 (fun hc => ?_) (fun hc => ?_)
    · replace hf := hf.1 hc
      exact r_sub [1, 2, 3, 4, 5, 6] rfl (b_X3_firstWinning_67 hX24 hf)
    · replace hf := hf.2 hc
      refine r_aload_n (j := 1) rfl rfl dX3_firstWinning_47 ?_
      refine r_iload_n (j := 2) rfl rfl dX3_firstWinning_48 ?_
      refine r_aload (j := 0) rfl dX3_firstWinning_49 ?_
      obtain ⟨fs_x4, x4, ha_x4, hv_x4, hf⟩ := hf
      refine r_get (Cn := RX2) (Tt := TX2) (N := 9) (n := 6) rfl uw_X2 (Nat.le_of_ble_eq_true rfl) wd_4_31 ha_x4 hv_x4 dX3_firstWinning_51 ?_
      refine r_ior (x := v1) (y := x4) dX3_firstWinning_54 ?_
      refine r_iconst (v := 1) (by decide) dX3_firstWinning_55 ?_
      refine r_iload_n (j := 3) rfl rfl dX3_firstWinning_56 ?_
      refine r_isub (x := 1) (y := v2) dX3_firstWinning_57 ?_
      try unfold C_X3_isWon at hf
      obtain ⟨⟨fs_r6, ha_r6⟩, hf⟩ := hf
      refine r_invVZ (t := 3) (As := [aI (v1 ||| x4), aI (1 - v2)]) (dz := d) (mz := 0) (sz := 0) rfl wd_5_21 wd_4_219 wd_4_220 cf_X3_isWon (Nat.le_refl _) (Nat.zero_le _) (Nat.zero_le _) (cat_ok (Nat.le_of_ble_eq_true rfl)) rfl rfl ha_r6 dX3_firstWinning_58 hf (fun r6 σ5 hk => ?_)
      replace hf := hk
      clear hk
      refine r_ifneZ (b := r6) (tgt := 67) (by decide) dX3_firstWinning_61 (fun hc => ?_) (fun hc => ?_)
      · replace hf := hf.1 hc
        exact r_sub [1, 2, 3, 4, 5, 6] rfl (b_X3_firstWinning_67 hX24 hf)
      · replace hf := hf.2 hc
        refine r_aload (j := 0) rfl dX3_firstWinning_64 ?_
        exact r_areturn rfl (Or.inl ⟨_, rfl⟩) dX3_firstWinning_66 rfl ⟨_, rfl, hf⟩
def Z_X3_firstWinning_24 (l : Launch) (G : GG) (d : Nat) (K : Option Nat → Hp → Prop) : Nat → Nat → Int32 → Int32 → Nat → Int32 → Int32 → Hp → Prop
  | 0 => fun _ _ _ _ _ _ _ => False
  | n + 1 => fun v0 v1 v2 v3 v4 v5 σ => F_X3_firstWinning_24 l G d (Z_X3_firstWinning_24 l G d K n) v0 v1 v2 v3 v4 v5 σ K
theorem z_X3_firstWinning_24 {l : Launch} {G : GG} {d : Nat} {K : Option Nat → Hp → Prop} : ∀ (n : Nat) v0 v1 v2 v3 v4 v5 σ, Z_X3_firstWinning_24 l G d K n v0 v1 v2 v3 v4 v5 σ → Wd l G (d + 1) "CoinsLaid$Outlook" yX3_firstWinning cX3_firstWinning 7 (some (FieldType.object "CoinsLaid$Lay")) 24 [(0, aR (some v0)), (1, aI v1), (2, aI v2), (3, aR (some v3)), (4, aI v4), (5, aI v5)] [] σ 0 0 (xM (QR K)) := by
  intro n
  induction n with
  | zero => intro v0 v1 v2 v3 v4 v5 σ hf; exact hf.elim
  | succ n ih => intro v0 v1 v2 v3 v4 v5 σ hf; exact b_X3_firstWinning_24 ih hf
def F_X3_firstWinning (l : Launch) (G : GG) (d : Nat) (v0 : Nat) (v1 : Int32) (v2 : Int32) (σ : Hp) (K : Option Nat → Hp → Prop) : Prop :=
  fR σ v0 3 0 fun x7 =>
  (∀ b8, x7 = some b8 →
    fR σ v0 3 0 fun x9 =>
    ∃ b10, x9 = some b10 ∧
    fN σ b10 8 8 fun x11 =>
    aL σ x11 fun x12 =>
    ∃ n, Z_X3_firstWinning_24 l G d K n v0 v1 v2 x11 x12 0 σ) ∧
  (x7 = none →
    K none σ)
set_option maxRecDepth 100000 in
set_option maxHeartbeats 4000000 in
theorem b_X3_firstWinning_0 {l : Launch} {G : GG} {d : Nat} {v0 : Nat} {v1 : Int32} {v2 : Int32} {σ : Hp} {K : Option Nat → Hp → Prop} (hf : F_X3_firstWinning l G d v0 v1 v2 σ K) : Wd l G (d + 1) "CoinsLaid$Outlook" yX3_firstWinning cX3_firstWinning 7 (some (FieldType.object "CoinsLaid$Lay")) 0 [(0, aR (some v0)), (1, aI v1), (2, aI v2)] [] σ 0 0 (xM (QR K)) := by
  unfold F_X3_firstWinning at hf
  refine r_aload_n (j := 0) rfl rfl dX3_firstWinning_0 ?_
  obtain ⟨fs_x7, x7, ha_x7, hv_x7, hf⟩ := hf
  refine r_get (Cn := RX3) (Tt := TX3) (N := 11) (n := 0) rfl uw_X3 (Nat.le_of_ble_eq_true rfl) wd_1_45 ha_x7 hv_x7 dX3_firstWinning_1 ?_
  refine r_ifnonnull (o := x7) (tgt := 9) (by decide) dX3_firstWinning_4 (fun b8 hc => ?_) (fun hc => ?_)
  · replace hf := hf.1 b8 hc
    subst hc
    refine r_aload_n (j := 0) rfl rfl dX3_firstWinning_9 ?_
    obtain ⟨fs_x9, x9, ha_x9, hv_x9, hf⟩ := hf
    refine r_get (Cn := RX3) (Tt := TX3) (N := 11) (n := 0) rfl uw_X3 (Nat.le_of_ble_eq_true rfl) wd_1_45 ha_x9 hv_x9 dX3_firstWinning_10 ?_
    obtain ⟨b10, hb_b10, hf⟩ := hf
    subst hb_b10
    obtain ⟨fs_x11, x11, ha_x11, hv_x11, hf⟩ := hf
    refine r_get (Cn := RX8) (Tt := TX8) (N := 9) (n := 8) rfl uw_X8 (Nat.le_of_ble_eq_true rfl) wd_2_82 ha_x11 hv_x11 dX3_firstWinning_13 ?_
    refine r_astore_n (L' := [(3, aR (some x11)), (0, aR (some v0)), (1, aI v1), (2, aI v2)]) rfl rfl (Nat.le_of_ble_eq_true rfl) dX3_firstWinning_16 ?_
    refine r_aload_n (j := 0) rfl rfl dX3_firstWinning_17 ?_
    obtain ⟨t_x12, N_x12, f_x12, ha_x12, hf⟩ := hf
    refine r_alen ha_x12 dX3_firstWinning_18 ?_
    generalize nI N_x12 = x12 at hf ⊢
    refine r_istore (L' := [(4, aI x12), (3, aR (some x11)), (0, aR (some v0)), (1, aI v1), (2, aI v2)]) rfl (Nat.le_of_ble_eq_true rfl) dX3_firstWinning_19 ?_
    refine r_iconst (v := 0) (by decide) dX3_firstWinning_21 ?_
    refine r_istore (L' := [(5, aI 0), (4, aI x12), (3, aR (some x11)), (0, aR (some v0)), (1, aI v1), (2, aI v2)]) rfl (Nat.le_of_ble_eq_true rfl) dX3_firstWinning_22 ?_
    obtain ⟨n, hf⟩ := hf
    exact r_sub [3, 4, 5, 2, 1, 0] rfl (z_X3_firstWinning_24 n _ _ _ _ _ _ _ hf)
  · replace hf := hf.2 hc
    subst hc
    refine r_null dX3_firstWinning_7 ?_
    exact r_areturn rfl (Or.inl ⟨_, rfl⟩) dX3_firstWinning_8 rfl ⟨_, rfl, hf⟩
theorem m_X3_firstWinning {l : Launch} {G : GG} {d : Nat} {v0 : Nat} {v1 : Int32} {v2 : Int32} {σ : Hp} {K : Option Nat → Hp → Prop} (hr : rv σ v0 3) (hf : F_X3_firstWinning l G d v0 v1 v2 σ K) : C_X3_firstWinning l G (d + 1) v0 v1 v2 σ K := ⟨hr, Sp.of (by decide) (Nat.le_of_ble_eq_true rfl) (b_X3_firstWinning_0 hf) rfl⟩
def F_X3_countWinning_72 (l : Launch) (G : GG) (d : Nat) (X28 : Nat → Int32 → Int32 → Int32 → Nat → Int32 → Int32 → Hp → Prop) (v0 : Nat) (v1 : Int32) (v2 : Int32) (v3 : Int32) (v4 : Nat) (v5 : Int32) (v6 : Int32) (σ : Hp) (K : Int32 → Hp → Prop) : Prop :=
  X28 v0 v1 v2 v3 v4 v5 (v6 + 1) σ
set_option maxRecDepth 100000 in
set_option maxHeartbeats 4000000 in
theorem b_X3_countWinning_72 {l : Launch} {G : GG} {d : Nat} {X28 : Nat → Int32 → Int32 → Int32 → Nat → Int32 → Int32 → Hp → Prop} {v0 : Nat} {v1 : Int32} {v2 : Int32} {v3 : Int32} {v4 : Nat} {v5 : Int32} {v6 : Int32} {σ : Hp} {K : Int32 → Hp → Prop} (hX28 : ∀ v0 v1 v2 v3 v4 v5 v6 σ, X28 v0 v1 v2 v3 v4 v5 v6 σ → Wd l G (d + 1) "CoinsLaid$Outlook" yX3_countWinning cX3_countWinning 8 (some FieldType.int) 28 [(0, aR (some v0)), (1, aI v1), (2, aI v2), (3, aI v3), (4, aR (some v4)), (5, aI v5), (6, aI v6)] [] σ 0 0 (xM (QI K))) (hf : F_X3_countWinning_72 l G d X28 v0 v1 v2 v3 v4 v5 v6 σ K) : Wd l G (d + 1) "CoinsLaid$Outlook" yX3_countWinning cX3_countWinning 8 (some FieldType.int) 72 [(0, aR (some v0)), (1, aI v1), (2, aI v2), (3, aI v3), (4, aR (some v4)), (5, aI v5), (6, aI v6)] [] σ 0 0 (xM (QI K)) := by
  unfold F_X3_countWinning_72 at hf
  refine r_iinc (j := 6) (w := (v6 + 1)) (L' := [(6, aI (v6 + 1)), (0, aR (some v0)), (1, aI v1), (2, aI v2), (3, aI v3), (4, aR (some v4)), (5, aI v5)]) rfl (by rfl) rfl (Nat.le_of_ble_eq_true rfl) dX3_countWinning_72 ?_
  refine r_goto (tgt := 28) (by decide) dX3_countWinning_75 ?_
  exact r_sub [1, 2, 3, 4, 5, 6, 0] rfl (hX28 _ _ _ _ _ _ _ _ hf)
def F_X3_countWinning_28 (l : Launch) (G : GG) (d : Nat) (X28 : Nat → Int32 → Int32 → Int32 → Nat → Int32 → Int32 → Hp → Prop) (v0 : Nat) (v1 : Int32) (v2 : Int32) (v3 : Int32) (v4 : Nat) (v5 : Int32) (v6 : Int32) (σ : Hp) (K : Int32 → Hp → Prop) : Prop :=
  ((v5 : Int32) ≤ (v6 : Int32) →
    K v3 σ) ∧
  (¬ (v5 : Int32) ≤ (v6 : Int32) →
    gN 3 σ v4 v6 fun x1 =>
    C_X2_mayBe l G d x1 v1 v2 σ fun r3 σ2 =>
    (r3 = false →
      F_X3_countWinning_72 l G d X28 v0 v1 v2 v3 v4 v5 v6 σ2 K) ∧
    (r3 = true →
      fI σ2 x1 2 6 fun x4 =>
      C_X3_isWon l G d v0 (v1 ||| x4) (1 - v2) σ2 fun r6 σ5 =>
      (r6 = true →
        F_X3_countWinning_72 l G d X28 v0 v1 v2 v3 v4 v5 v6 σ5 K) ∧
      (r6 = false →
        F_X3_countWinning_72 l G d X28 v0 v1 v2 (v3 + 1) v4 v5 v6 σ5 K)))
set_option maxRecDepth 100000 in
set_option maxHeartbeats 4000000 in
theorem b_X3_countWinning_28 {l : Launch} {G : GG} {d : Nat} {X28 : Nat → Int32 → Int32 → Int32 → Nat → Int32 → Int32 → Hp → Prop} {v0 : Nat} {v1 : Int32} {v2 : Int32} {v3 : Int32} {v4 : Nat} {v5 : Int32} {v6 : Int32} {σ : Hp} {K : Int32 → Hp → Prop} (hX28 : ∀ v0 v1 v2 v3 v4 v5 v6 σ, X28 v0 v1 v2 v3 v4 v5 v6 σ → Wd l G (d + 1) "CoinsLaid$Outlook" yX3_countWinning cX3_countWinning 8 (some FieldType.int) 28 [(0, aR (some v0)), (1, aI v1), (2, aI v2), (3, aI v3), (4, aR (some v4)), (5, aI v5), (6, aI v6)] [] σ 0 0 (xM (QI K))) (hf : F_X3_countWinning_28 l G d X28 v0 v1 v2 v3 v4 v5 v6 σ K) : Wd l G (d + 1) "CoinsLaid$Outlook" yX3_countWinning cX3_countWinning 8 (some FieldType.int) 28 [(0, aR (some v0)), (1, aI v1), (2, aI v2), (3, aI v3), (4, aR (some v4)), (5, aI v5), (6, aI v6)] [] σ 0 0 (xM (QI K)) := by
  unfold F_X3_countWinning_28 at hf
  refine r_iload (j := 6) rfl dX3_countWinning_28 ?_
  refine r_iload (j := 5) rfl dX3_countWinning_30 ?_
  refine r_icmpge (x := v6) (y := v5) (tgt := 78) (by decide) dX3_countWinning_32 (fun hc => ?_) (fun hc => ?_)
  · replace hf := hf.1 hc
    refine r_iload_n (j := 3) rfl rfl dX3_countWinning_78 ?_
    exact r_ireturn rfl dX3_countWinning_79 rfl ⟨_, rfl, hf⟩
  · replace hf := hf.2 hc
    refine r_aload (j := 4) rfl dX3_countWinning_35 ?_
    refine r_iload (j := 6) rfl dX3_countWinning_37 ?_
    obtain ⟨N_x1, f_x1, x1, ha_x1, hi_x1, hv_x1, hf⟩ := hf
    refine r_aald3 ha_x1 hi_x1 dX3_countWinning_39 ?_
    rw [hv_x1]
    refine r_astore (L' := [(7, aR (some x1)), (0, aR (some v0)), (1, aI v1), (2, aI v2), (3, aI v3), (4, aR (some v4)), (5, aI v5), (6, aI v6)]) rfl (Nat.le_of_ble_eq_true rfl) dX3_countWinning_40 ?_
    refine r_aload (j := 0) rfl dX3_countWinning_42 ?_
    refine r_iload_n (j := 2) rfl rfl dX3_countWinning_44 ?_
    refine r_iload_n (j := 3) rfl rfl dX3_countWinning_45 ?_
    try unfold C_X2_mayBe at hf
    obtain ⟨⟨fs_r3, ha_r3⟩, hf⟩ := hf
    refine r_invVZ (t := 2) (As := [aI v1, aI v2]) (dz := d) (mz := 0) (sz := 0) rfl wd_4_233 wd_4_79 wd_4_80 cf_X2_mayBe (Nat.le_refl _) (Nat.zero_le _) (Nat.zero_le _) (cat_ok (Nat.le_of_ble_eq_true rfl)) rfl rfl ha_r3 dX3_countWinning_46 hf (fun r3 σ2 hk => ?_)
    replace hf := hk
    clear hk
    refine r_ifeqZ (b := r3) (tgt := 72) (by decide) dX3_countWinning_49 (fun hc => ?_) (fun hc => ?_)
    · replace hf := hf.1 hc
      exact r_sub [1, 2, 3, 4, 5, 6, 7] rfl (b_X3_countWinning_72 hX28 hf)
    · replace hf := hf.2 hc
      refine r_aload_n (j := 1) rfl rfl dX3_countWinning_52 ?_
      refine r_iload_n (j := 2) rfl rfl dX3_countWinning_53 ?_
      refine r_aload (j := 0) rfl dX3_countWinning_54 ?_
      obtain ⟨fs_x4, x4, ha_x4, hv_x4, hf⟩ := hf
      refine r_get (Cn := RX2) (Tt := TX2) (N := 9) (n := 6) rfl uw_X2 (Nat.le_of_ble_eq_true rfl) wd_4_31 ha_x4 hv_x4 dX3_countWinning_56 ?_
      refine r_ior (x := v1) (y := x4) dX3_countWinning_59 ?_
      refine r_iconst (v := 1) (by decide) dX3_countWinning_60 ?_
      refine r_iload_n (j := 3) rfl rfl dX3_countWinning_61 ?_
      refine r_isub (x := 1) (y := v2) dX3_countWinning_62 ?_
      try unfold C_X3_isWon at hf
      obtain ⟨⟨fs_r6, ha_r6⟩, hf⟩ := hf
      refine r_invVZ (t := 3) (As := [aI (v1 ||| x4), aI (1 - v2)]) (dz := d) (mz := 0) (sz := 0) rfl wd_5_21 wd_4_219 wd_4_220 cf_X3_isWon (Nat.le_refl _) (Nat.zero_le _) (Nat.zero_le _) (cat_ok (Nat.le_of_ble_eq_true rfl)) rfl rfl ha_r6 dX3_countWinning_63 hf (fun r6 σ5 hk => ?_)
      replace hf := hk
      clear hk
      refine r_ifneZ (b := r6) (tgt := 72) (by decide) dX3_countWinning_66 (fun hc => ?_) (fun hc => ?_)
      · replace hf := hf.1 hc
        exact r_sub [1, 2, 3, 4, 5, 6, 7] rfl (b_X3_countWinning_72 hX28 hf)
      · replace hf := hf.2 hc
        refine r_iinc (j := 4) (w := (v3 + 1)) (L' := [(3, aI (v3 + 1)), (7, aR (some x1)), (0, aR (some v0)), (1, aI v1), (2, aI v2), (4, aR (some v4)), (5, aI v5), (6, aI v6)]) rfl (by rfl) rfl (Nat.le_of_ble_eq_true rfl) dX3_countWinning_69 ?_
        exact r_sub [2, 3, 4, 0, 5, 6, 7] rfl (b_X3_countWinning_72 hX28 hf)
def Z_X3_countWinning_28 (l : Launch) (G : GG) (d : Nat) (K : Int32 → Hp → Prop) : Nat → Nat → Int32 → Int32 → Int32 → Nat → Int32 → Int32 → Hp → Prop
  | 0 => fun _ _ _ _ _ _ _ _ => False
  | n + 1 => fun v0 v1 v2 v3 v4 v5 v6 σ => F_X3_countWinning_28 l G d (Z_X3_countWinning_28 l G d K n) v0 v1 v2 v3 v4 v5 v6 σ K
theorem z_X3_countWinning_28 {l : Launch} {G : GG} {d : Nat} {K : Int32 → Hp → Prop} : ∀ (n : Nat) v0 v1 v2 v3 v4 v5 v6 σ, Z_X3_countWinning_28 l G d K n v0 v1 v2 v3 v4 v5 v6 σ → Wd l G (d + 1) "CoinsLaid$Outlook" yX3_countWinning cX3_countWinning 8 (some FieldType.int) 28 [(0, aR (some v0)), (1, aI v1), (2, aI v2), (3, aI v3), (4, aR (some v4)), (5, aI v5), (6, aI v6)] [] σ 0 0 (xM (QI K)) := by
  intro n
  induction n with
  | zero => intro v0 v1 v2 v3 v4 v5 v6 σ hf; exact hf.elim
  | succ n ih => intro v0 v1 v2 v3 v4 v5 v6 σ hf; exact b_X3_countWinning_28 ih hf
def F_X3_countWinning (l : Launch) (G : GG) (d : Nat) (v0 : Nat) (v1 : Int32) (v2 : Int32) (σ : Hp) (K : Int32 → Hp → Prop) : Prop :=
  fR σ v0 3 0 fun x7 =>
  (∀ b8, x7 = some b8 →
    fR σ v0 3 0 fun x9 =>
    ∃ b10, x9 = some b10 ∧
    fN σ b10 8 8 fun x11 =>
    aL σ x11 fun x12 =>
    ∃ n, Z_X3_countWinning_28 l G d K n v0 v1 v2 0 x11 x12 0 σ) ∧
  (x7 = none →
    K 0 σ)
set_option maxRecDepth 100000 in
set_option maxHeartbeats 4000000 in
theorem b_X3_countWinning_0 {l : Launch} {G : GG} {d : Nat} {v0 : Nat} {v1 : Int32} {v2 : Int32} {σ : Hp} {K : Int32 → Hp → Prop} (hf : F_X3_countWinning l G d v0 v1 v2 σ K) : Wd l G (d + 1) "CoinsLaid$Outlook" yX3_countWinning cX3_countWinning 8 (some FieldType.int) 0 [(0, aR (some v0)), (1, aI v1), (2, aI v2)] [] σ 0 0 (xM (QI K)) := by
  unfold F_X3_countWinning at hf
  refine r_aload_n (j := 0) rfl rfl dX3_countWinning_0 ?_
  obtain ⟨fs_x7, x7, ha_x7, hv_x7, hf⟩ := hf
  refine r_get (Cn := RX3) (Tt := TX3) (N := 11) (n := 0) rfl uw_X3 (Nat.le_of_ble_eq_true rfl) wd_1_45 ha_x7 hv_x7 dX3_countWinning_1 ?_
  refine r_ifnonnull (o := x7) (tgt := 9) (by decide) dX3_countWinning_4 (fun b8 hc => ?_) (fun hc => ?_)
  · replace hf := hf.1 b8 hc
    subst hc
    refine r_iconst (v := 0) (by decide) dX3_countWinning_9 ?_
    refine r_istore_n (L' := [(3, aI 0), (0, aR (some v0)), (1, aI v1), (2, aI v2)]) rfl rfl (Nat.le_of_ble_eq_true rfl) dX3_countWinning_10 ?_
    refine r_aload_n (j := 1) rfl rfl dX3_countWinning_11 ?_
    obtain ⟨fs_x9, x9, ha_x9, hv_x9, hf⟩ := hf
    refine r_get (Cn := RX3) (Tt := TX3) (N := 11) (n := 0) rfl uw_X3 (Nat.le_of_ble_eq_true rfl) wd_1_45 ha_x9 hv_x9 dX3_countWinning_12 ?_
    obtain ⟨b10, hb_b10, hf⟩ := hf
    subst hb_b10
    obtain ⟨fs_x11, x11, ha_x11, hv_x11, hf⟩ := hf
    refine r_get (Cn := RX8) (Tt := TX8) (N := 9) (n := 8) rfl uw_X8 (Nat.le_of_ble_eq_true rfl) wd_2_82 ha_x11 hv_x11 dX3_countWinning_15 ?_
    refine r_astore (L' := [(4, aR (some x11)), (3, aI 0), (0, aR (some v0)), (1, aI v1), (2, aI v2)]) rfl (Nat.le_of_ble_eq_true rfl) dX3_countWinning_18 ?_
    refine r_aload (j := 0) rfl dX3_countWinning_20 ?_
    obtain ⟨t_x12, N_x12, f_x12, ha_x12, hf⟩ := hf
    refine r_alen ha_x12 dX3_countWinning_22 ?_
    generalize nI N_x12 = x12 at hf ⊢
    refine r_istore (L' := [(5, aI x12), (4, aR (some x11)), (3, aI 0), (0, aR (some v0)), (1, aI v1), (2, aI v2)]) rfl (Nat.le_of_ble_eq_true rfl) dX3_countWinning_23 ?_
    refine r_iconst (v := 0) (by decide) dX3_countWinning_25 ?_
    refine r_istore (L' := [(6, aI 0), (5, aI x12), (4, aR (some x11)), (3, aI 0), (0, aR (some v0)), (1, aI v1), (2, aI v2)]) rfl (Nat.le_of_ble_eq_true rfl) dX3_countWinning_26 ?_
    obtain ⟨n, hf⟩ := hf
    exact r_sub [4, 5, 6, 3, 2, 1, 0] rfl (z_X3_countWinning_28 n _ _ _ _ _ _ _ _ hf)
  · replace hf := hf.2 hc
    subst hc
    refine r_iconst (v := 0) (by decide) dX3_countWinning_7 ?_
    exact r_ireturn rfl dX3_countWinning_8 rfl ⟨_, rfl, hf⟩
theorem m_X3_countWinning {l : Launch} {G : GG} {d : Nat} {v0 : Nat} {v1 : Int32} {v2 : Int32} {σ : Hp} {K : Int32 → Hp → Prop} (hr : rv σ v0 3) (hf : F_X3_countWinning l G d v0 v1 v2 σ K) : C_X3_countWinning l G (d + 1) v0 v1 v2 σ K := ⟨hr, Sp.of (by decide) (Nat.le_of_ble_eq_true rfl) (b_X3_countWinning_0 hf) rfl⟩
def F_X3_turningSquare_69 (l : Launch) (G : GG) (d : Nat) (X20 : Nat → Int32 → Int32 → Bool → Int32 → Hp → Prop) (v0 : Nat) (v1 : Int32) (v2 : Int32) (v3 : Bool) (v4 : Int32) (σ : Hp) (K : Int32 → Hp → Prop) : Prop :=
  X20 v0 v1 v2 v3 (v4 + 1) σ
set_option maxRecDepth 100000 in
set_option maxHeartbeats 4000000 in
theorem b_X3_turningSquare_69 {l : Launch} {G : GG} {d : Nat} {X20 : Nat → Int32 → Int32 → Bool → Int32 → Hp → Prop} {v0 : Nat} {v1 : Int32} {v2 : Int32} {v3 : Bool} {v4 : Int32} {σ : Hp} {K : Int32 → Hp → Prop} (hX20 : ∀ v0 v1 v2 v3 v4 σ, X20 v0 v1 v2 v3 v4 σ → Wd l G (d + 1) "CoinsLaid$Outlook" yX3_turningSquare cX3_turningSquare 6 (some FieldType.int) 20 [(0, aR (some v0)), (1, aI v1), (2, aI v2), (3, aI (bi v3)), (4, aI v4)] [] σ 0 0 (xM (QI K))) (hf : F_X3_turningSquare_69 l G d X20 v0 v1 v2 v3 v4 σ K) : Wd l G (d + 1) "CoinsLaid$Outlook" yX3_turningSquare cX3_turningSquare 6 (some FieldType.int) 69 [(0, aR (some v0)), (1, aI v1), (2, aI v2), (3, aI (bi v3)), (4, aI v4)] [] σ 0 0 (xM (QI K)) := by
  unfold F_X3_turningSquare_69 at hf
  refine r_iinc (j := 4) (w := (v4 + 1)) (L' := [(4, aI (v4 + 1)), (0, aR (some v0)), (1, aI v1), (2, aI v2), (3, aI (bi v3))]) rfl (by rfl) rfl (Nat.le_of_ble_eq_true rfl) dX3_turningSquare_69 ?_
  refine r_goto (tgt := 20) (by decide) dX3_turningSquare_72 ?_
  exact r_sub [1, 2, 3, 4, 0] rfl (hX20 _ _ _ _ _ _ hf)
def F_X3_turningSquare_20 (l : Launch) (G : GG) (d : Nat) (X20 : Nat → Int32 → Int32 → Bool → Int32 → Hp → Prop) (v0 : Nat) (v1 : Int32) (v2 : Int32) (v3 : Bool) (v4 : Int32) (σ : Hp) (K : Int32 → Hp → Prop) : Prop :=
  fR σ v0 3 0 fun x1 =>
  ∃ b2, x1 = some b2 ∧
  fI σ b2 8 5 fun x3 =>
  ((x3 : Int32) ≤ (v4 : Int32) →
    K (-2) σ) ∧
  (¬ (x3 : Int32) ≤ (v4 : Int32) →
    fR σ v0 3 0 fun x4 =>
    ∃ b5, x4 = some b5 ∧
    fI σ b5 8 6 fun x6 =>
    (¬ (((v1 ||| x6) &&& (1 <<< (v4 &&& 31))) : Int32) = 0 →
      F_X3_turningSquare_69 l G d X20 v0 v1 v2 v3 v4 σ K) ∧
    ((((v1 ||| x6) &&& (1 <<< (v4 &&& 31))) : Int32) = 0 →
      C_X3_isWon l G d v0 (v1 ||| (1 <<< (v4 &&& 31))) v2 σ fun r8 σ7 =>
      (((bi r8) : Int32) = ((bi v3) : Int32) →
        F_X3_turningSquare_69 l G d X20 v0 v1 v2 v3 v4 σ7 K) ∧
      (¬ ((bi r8) : Int32) = ((bi v3) : Int32) →
        K v4 σ7)))
set_option maxRecDepth 100000 in
set_option maxHeartbeats 4000000 in
theorem b_X3_turningSquare_20 {l : Launch} {G : GG} {d : Nat} {X20 : Nat → Int32 → Int32 → Bool → Int32 → Hp → Prop} {v0 : Nat} {v1 : Int32} {v2 : Int32} {v3 : Bool} {v4 : Int32} {σ : Hp} {K : Int32 → Hp → Prop} (hX20 : ∀ v0 v1 v2 v3 v4 σ, X20 v0 v1 v2 v3 v4 σ → Wd l G (d + 1) "CoinsLaid$Outlook" yX3_turningSquare cX3_turningSquare 6 (some FieldType.int) 20 [(0, aR (some v0)), (1, aI v1), (2, aI v2), (3, aI (bi v3)), (4, aI v4)] [] σ 0 0 (xM (QI K))) (hf : F_X3_turningSquare_20 l G d X20 v0 v1 v2 v3 v4 σ K) : Wd l G (d + 1) "CoinsLaid$Outlook" yX3_turningSquare cX3_turningSquare 6 (some FieldType.int) 20 [(0, aR (some v0)), (1, aI v1), (2, aI v2), (3, aI (bi v3)), (4, aI v4)] [] σ 0 0 (xM (QI K)) := by
  unfold F_X3_turningSquare_20 at hf
  refine r_iload (j := 4) rfl dX3_turningSquare_20 ?_
  refine r_aload_n (j := 0) rfl rfl dX3_turningSquare_22 ?_
  obtain ⟨fs_x1, x1, ha_x1, hv_x1, hf⟩ := hf
  refine r_get (Cn := RX3) (Tt := TX3) (N := 11) (n := 0) rfl uw_X3 (Nat.le_of_ble_eq_true rfl) wd_1_45 ha_x1 hv_x1 dX3_turningSquare_23 ?_
  obtain ⟨b2, hb_b2, hf⟩ := hf
  subst hb_b2
  obtain ⟨fs_x3, x3, ha_x3, hv_x3, hf⟩ := hf
  refine r_get (Cn := RX8) (Tt := TX8) (N := 9) (n := 5) rfl uw_X8 (Nat.le_of_ble_eq_true rfl) wd_2_69 ha_x3 hv_x3 dX3_turningSquare_26 ?_
  refine r_icmpge (x := v4) (y := x3) (tgt := 75) (by decide) dX3_turningSquare_29 (fun hc => ?_) (fun hc => ?_)
  · replace hf := hf.1 hc
    refine r_bipush (v := (-2)) (by decide) dX3_turningSquare_75 ?_
    exact r_ireturn rfl dX3_turningSquare_77 rfl ⟨_, rfl, hf⟩
  · replace hf := hf.2 hc
    refine r_iconst (v := 1) (by decide) dX3_turningSquare_32 ?_
    refine r_iload (j := 4) rfl dX3_turningSquare_33 ?_
    refine r_ishl (x := 1) (y := v4) dX3_turningSquare_35 ?_
    refine r_istore (L' := [(5, aI (1 <<< (v4 &&& 31))), (0, aR (some v0)), (1, aI v1), (2, aI v2), (3, aI (bi v3)), (4, aI v4)]) rfl (Nat.le_of_ble_eq_true rfl) dX3_turningSquare_36 ?_
    refine r_iload_n (j := 2) rfl rfl dX3_turningSquare_38 ?_
    refine r_aload_n (j := 1) rfl rfl dX3_turningSquare_39 ?_
    obtain ⟨fs_x4, x4, ha_x4, hv_x4, hf⟩ := hf
    refine r_get (Cn := RX3) (Tt := TX3) (N := 11) (n := 0) rfl uw_X3 (Nat.le_of_ble_eq_true rfl) wd_1_45 ha_x4 hv_x4 dX3_turningSquare_40 ?_
    obtain ⟨b5, hb_b5, hf⟩ := hf
    subst hb_b5
    obtain ⟨fs_x6, x6, ha_x6, hv_x6, hf⟩ := hf
    refine r_get (Cn := RX8) (Tt := TX8) (N := 9) (n := 6) rfl uw_X8 (Nat.le_of_ble_eq_true rfl) wd_2_75 ha_x6 hv_x6 dX3_turningSquare_43 ?_
    refine r_ior (x := v1) (y := x6) dX3_turningSquare_46 ?_
    refine r_iload (j := 0) rfl dX3_turningSquare_47 ?_
    refine r_iand (x := (v1 ||| x6)) (y := (1 <<< (v4 &&& 31))) dX3_turningSquare_49 ?_
    refine r_ifne (x := ((v1 ||| x6) &&& (1 <<< (v4 &&& 31)))) (tgt := 69) (by decide) dX3_turningSquare_50 (fun hc => ?_) (fun hc => ?_)
    · replace hf := hf.1 hc
      exact r_sub [1, 2, 3, 4, 5] rfl (b_X3_turningSquare_69 hX20 hf)
    · replace hf := hf.2 hc
      refine r_aload_n (j := 1) rfl rfl dX3_turningSquare_53 ?_
      refine r_iload_n (j := 2) rfl rfl dX3_turningSquare_54 ?_
      refine r_iload (j := 0) rfl dX3_turningSquare_55 ?_
      refine r_ior (x := v1) (y := (1 <<< (v4 &&& 31))) dX3_turningSquare_57 ?_
      refine r_iload_n (j := 3) rfl rfl dX3_turningSquare_58 ?_
      try unfold C_X3_isWon at hf
      obtain ⟨⟨fs_r8, ha_r8⟩, hf⟩ := hf
      refine r_invVZ (t := 3) (As := [aI (v1 ||| (1 <<< (v4 &&& 31))), aI v2]) (dz := d) (mz := 0) (sz := 0) rfl wd_5_21 wd_4_219 wd_4_220 cf_X3_isWon (Nat.le_refl _) (Nat.zero_le _) (Nat.zero_le _) (cat_ok (Nat.le_of_ble_eq_true rfl)) rfl rfl ha_r8 dX3_turningSquare_59 hf (fun r8 σ7 hk => ?_)
      replace hf := hk
      clear hk
      refine r_iload_n (j := 4) rfl rfl dX3_turningSquare_62 ?_
      refine r_icmpeq (x := (bi r8)) (y := (bi v3)) (tgt := 69) (by decide) dX3_turningSquare_63 (fun hc => ?_) (fun hc => ?_)
      · replace hf := hf.1 hc
        exact r_sub [1, 2, 3, 4, 5] rfl (b_X3_turningSquare_69 hX20 hf)
      · replace hf := hf.2 hc
        refine r_iload (j := 5) rfl dX3_turningSquare_66 ?_
        exact r_ireturn rfl dX3_turningSquare_68 rfl ⟨_, rfl, hf⟩
def Z_X3_turningSquare_20 (l : Launch) (G : GG) (d : Nat) (K : Int32 → Hp → Prop) : Nat → Nat → Int32 → Int32 → Bool → Int32 → Hp → Prop
  | 0 => fun _ _ _ _ _ _ => False
  | n + 1 => fun v0 v1 v2 v3 v4 σ => F_X3_turningSquare_20 l G d (Z_X3_turningSquare_20 l G d K n) v0 v1 v2 v3 v4 σ K
theorem z_X3_turningSquare_20 {l : Launch} {G : GG} {d : Nat} {K : Int32 → Hp → Prop} : ∀ (n : Nat) v0 v1 v2 v3 v4 σ, Z_X3_turningSquare_20 l G d K n v0 v1 v2 v3 v4 σ → Wd l G (d + 1) "CoinsLaid$Outlook" yX3_turningSquare cX3_turningSquare 6 (some FieldType.int) 20 [(0, aR (some v0)), (1, aI v1), (2, aI v2), (3, aI (bi v3)), (4, aI v4)] [] σ 0 0 (xM (QI K)) := by
  intro n
  induction n with
  | zero => intro v0 v1 v2 v3 v4 σ hf; exact hf.elim
  | succ n ih => intro v0 v1 v2 v3 v4 σ hf; exact b_X3_turningSquare_20 ih hf
def F_X3_turningSquare (l : Launch) (G : GG) (d : Nat) (v0 : Nat) (v1 : Int32) (v2 : Int32) (σ : Hp) (K : Int32 → Hp → Prop) : Prop :=
  fR σ v0 3 0 fun x9 =>
  (∀ b10, x9 = some b10 →
    C_X3_isWon l G d v0 v1 v2 σ fun r12 σ11 =>
    ∃ n, Z_X3_turningSquare_20 l G d K n v0 v1 v2 r12 0 σ11) ∧
  (x9 = none →
    K (-2) σ)
set_option maxRecDepth 100000 in
set_option maxHeartbeats 4000000 in
theorem b_X3_turningSquare_0 {l : Launch} {G : GG} {d : Nat} {v0 : Nat} {v1 : Int32} {v2 : Int32} {σ : Hp} {K : Int32 → Hp → Prop} (hf : F_X3_turningSquare l G d v0 v1 v2 σ K) : Wd l G (d + 1) "CoinsLaid$Outlook" yX3_turningSquare cX3_turningSquare 6 (some FieldType.int) 0 [(0, aR (some v0)), (1, aI v1), (2, aI v2)] [] σ 0 0 (xM (QI K)) := by
  unfold F_X3_turningSquare at hf
  refine r_aload_n (j := 0) rfl rfl dX3_turningSquare_0 ?_
  obtain ⟨fs_x9, x9, ha_x9, hv_x9, hf⟩ := hf
  refine r_get (Cn := RX3) (Tt := TX3) (N := 11) (n := 0) rfl uw_X3 (Nat.le_of_ble_eq_true rfl) wd_1_45 ha_x9 hv_x9 dX3_turningSquare_1 ?_
  refine r_ifnonnull (o := x9) (tgt := 10) (by decide) dX3_turningSquare_4 (fun b10 hc => ?_) (fun hc => ?_)
  · replace hf := hf.1 b10 hc
    subst hc
    refine r_aload_n (j := 0) rfl rfl dX3_turningSquare_10 ?_
    refine r_iload_n (j := 1) rfl rfl dX3_turningSquare_11 ?_
    refine r_iload_n (j := 2) rfl rfl dX3_turningSquare_12 ?_
    try unfold C_X3_isWon at hf
    obtain ⟨⟨fs_r12, ha_r12⟩, hf⟩ := hf
    refine r_invVZ (t := 3) (As := [aI v1, aI v2]) (dz := d) (mz := 0) (sz := 0) rfl wd_5_21 wd_4_219 wd_4_220 cf_X3_isWon (Nat.le_refl _) (Nat.zero_le _) (Nat.zero_le _) (cat_ok (Nat.le_of_ble_eq_true rfl)) rfl rfl ha_r12 dX3_turningSquare_13 hf (fun r12 σ11 hk => ?_)
    replace hf := hk
    clear hk
    refine r_istore_n (L' := [(3, aI (bi r12)), (0, aR (some v0)), (1, aI v1), (2, aI v2)]) rfl rfl (Nat.le_of_ble_eq_true rfl) dX3_turningSquare_16 ?_
    refine r_iconst (v := 0) (by decide) dX3_turningSquare_17 ?_
    refine r_istore (L' := [(4, aI 0), (3, aI (bi r12)), (0, aR (some v0)), (1, aI v1), (2, aI v2)]) rfl (Nat.le_of_ble_eq_true rfl) dX3_turningSquare_18 ?_
    obtain ⟨n, hf⟩ := hf
    exact r_sub [2, 3, 4, 1, 0] rfl (z_X3_turningSquare_20 n _ _ _ _ _ _ hf)
  · replace hf := hf.2 hc
    subst hc
    refine r_bipush (v := (-2)) (by decide) dX3_turningSquare_7 ?_
    exact r_ireturn rfl dX3_turningSquare_9 rfl ⟨_, rfl, hf⟩
theorem m_X3_turningSquare {l : Launch} {G : GG} {d : Nat} {v0 : Nat} {v1 : Int32} {v2 : Int32} {σ : Hp} {K : Int32 → Hp → Prop} (hr : rv σ v0 3) (hf : F_X3_turningSquare l G d v0 v1 v2 σ K) : C_X3_turningSquare l G (d + 1) v0 v1 v2 σ K := ⟨hr, Sp.of (by decide) (Nat.le_of_ble_eq_true rfl) (b_X3_turningSquare_0 hf) rfl⟩
def F_X3_stateOf_31 (l : Launch) (G : GG) (d : Nat) (s0 : Int32) (σ : Hp) (K : Int32 → Hp → Prop) : Prop :=
  K s0 σ
set_option maxRecDepth 100000 in
set_option maxHeartbeats 4000000 in
theorem b_X3_stateOf_31 {l : Launch} {G : GG} {d : Nat} {s0 : Int32} {σ : Hp} {K : Int32 → Hp → Prop} (hf : F_X3_stateOf_31 l G d s0 σ K) : Wd l G (d + 1) "CoinsLaid$Outlook" yX3_stateOf cX3_stateOf 4 (some FieldType.int) 31 [] [aI s0] σ 0 0 (xM (QI K)) := by
  unfold F_X3_stateOf_31 at hf
  exact r_ireturn rfl dX3_stateOf_31 rfl ⟨_, rfl, hf⟩
def F_X3_stateOf_26 (l : Launch) (G : GG) (d : Nat) (σ : Hp) (K : Int32 → Hp → Prop) : Prop :=
  F_X3_stateOf_31 l G d (-1) σ K
set_option maxRecDepth 100000 in
set_option maxHeartbeats 4000000 in
theorem b_X3_stateOf_26 {l : Launch} {G : GG} {d : Nat} {σ : Hp} {K : Int32 → Hp → Prop} (hf : F_X3_stateOf_26 l G d  σ K) : Wd l G (d + 1) "CoinsLaid$Outlook" yX3_stateOf cX3_stateOf 4 (some FieldType.int) 26 [] [] σ 0 0 (xM (QI K)) := by
  unfold F_X3_stateOf_26 at hf
  refine r_iconst (v := (-1)) (by decide) dX3_stateOf_26 ?_
  refine r_goto (tgt := 31) (by decide) dX3_stateOf_27 ?_
  exact r_sub [] rfl (b_X3_stateOf_31 hf)
def F_X3_stateOf (l : Launch) (G : GG) (d : Nat) (v0 : Nat) (v1 : Int32) (v2 : Int32) (σ : Hp) (K : Int32 → Hp → Prop) : Prop :=
  fR σ v0 3 0 fun x1 =>
  (x1 = none →
    F_X3_stateOf_26 l G d σ K) ∧
  (∀ b2, x1 = some b2 →
    ((((2 * v1) + v2) : Int32) < 0 →
      F_X3_stateOf_26 l G d σ K) ∧
    (¬ (((2 * v1) + v2) : Int32) < 0 →
      fN σ v0 3 2 fun x3 =>
      aL σ x3 fun x4 =>
      ((((2 * v1) + v2) : Int32) < (x4 : Int32) →
        F_X3_stateOf_31 l G d ((2 * v1) + v2) σ K) ∧
      (¬ (((2 * v1) + v2) : Int32) < (x4 : Int32) →
        F_X3_stateOf_26 l G d σ K)))
set_option maxRecDepth 100000 in
set_option maxHeartbeats 4000000 in
theorem b_X3_stateOf_0 {l : Launch} {G : GG} {d : Nat} {v0 : Nat} {v1 : Int32} {v2 : Int32} {σ : Hp} {K : Int32 → Hp → Prop} (hf : F_X3_stateOf l G d v0 v1 v2 σ K) : Wd l G (d + 1) "CoinsLaid$Outlook" yX3_stateOf cX3_stateOf 4 (some FieldType.int) 0 [(0, aR (some v0)), (1, aI v1), (2, aI v2)] [] σ 0 0 (xM (QI K)) := by
  unfold F_X3_stateOf at hf
  refine r_iconst (v := 2) (by decide) dX3_stateOf_0 ?_
  refine r_iload_n (j := 1) rfl rfl dX3_stateOf_1 ?_
  refine r_imul (x := 2) (y := v1) dX3_stateOf_2 ?_
  refine r_iload_n (j := 2) rfl rfl dX3_stateOf_3 ?_
  refine r_iadd (x := (2 * v1)) (y := v2) dX3_stateOf_4 ?_
  refine r_istore_n (L' := [(3, aI ((2 * v1) + v2)), (0, aR (some v0)), (1, aI v1), (2, aI v2)]) rfl rfl (Nat.le_of_ble_eq_true rfl) dX3_stateOf_5 ?_
  refine r_aload_n (j := 1) rfl rfl dX3_stateOf_6 ?_
  obtain ⟨fs_x1, x1, ha_x1, hv_x1, hf⟩ := hf
  refine r_get (Cn := RX3) (Tt := TX3) (N := 11) (n := 0) rfl uw_X3 (Nat.le_of_ble_eq_true rfl) wd_1_45 ha_x1 hv_x1 dX3_stateOf_7 ?_
  refine r_ifnull (o := x1) (tgt := 26) (by decide) dX3_stateOf_10 (fun hc => ?_) (fun b2 hc => ?_)
  · replace hf := hf.1 hc
    subst hc
    exact r_sub [] rfl (b_X3_stateOf_26 hf)
  · replace hf := hf.2 b2 hc
    subst hc
    refine r_iload_n (j := 0) rfl rfl dX3_stateOf_13 ?_
    refine r_iflt (x := ((2 * v1) + v2)) (tgt := 26) (by decide) dX3_stateOf_14 (fun hc => ?_) (fun hc => ?_)
    · replace hf := hf.1 hc
      exact r_sub [] rfl (b_X3_stateOf_26 hf)
    · replace hf := hf.2 hc
      refine r_iload_n (j := 0) rfl rfl dX3_stateOf_17 ?_
      refine r_aload_n (j := 1) rfl rfl dX3_stateOf_18 ?_
      obtain ⟨fs_x3, x3, ha_x3, hv_x3, hf⟩ := hf
      refine r_get (Cn := RX3) (Tt := TX3) (N := 11) (n := 2) rfl uw_X3 (Nat.le_of_ble_eq_true rfl) wd_1_48 ha_x3 hv_x3 dX3_stateOf_19 ?_
      obtain ⟨t_x4, N_x4, f_x4, ha_x4, hf⟩ := hf
      refine r_alen ha_x4 dX3_stateOf_22 ?_
      generalize nI N_x4 = x4 at hf ⊢
      refine r_icmplt (x := ((2 * v1) + v2)) (y := x4) (tgt := 30) (by decide) dX3_stateOf_23 (fun hc => ?_) (fun hc => ?_)
      · replace hf := hf.1 hc
        refine r_iload_n (j := 0) rfl rfl dX3_stateOf_30 ?_
        exact r_sub [] rfl (b_X3_stateOf_31 hf)
      · replace hf := hf.2 hc
        exact r_sub [] rfl (b_X3_stateOf_26 hf)
theorem m_X3_stateOf {l : Launch} {G : GG} {d : Nat} {v0 : Nat} {v1 : Int32} {v2 : Int32} {σ : Hp} {K : Int32 → Hp → Prop} (hr : rv σ v0 3) (hf : F_X3_stateOf l G d v0 v1 v2 σ K) : C_X3_stateOf l G (d + 1) v0 v1 v2 σ K := ⟨hr, Sp.of (by decide) (Nat.le_of_ble_eq_true rfl) (b_X3_stateOf_0 hf) rfl⟩
def F_X3_settle_34 (l : Launch) (G : GG) (d : Nat) (σ : Hp) (K : Hp → Prop) : Prop :=
  K σ
set_option maxRecDepth 100000 in
set_option maxHeartbeats 4000000 in
theorem b_X3_settle_34 {l : Launch} {G : GG} {d : Nat} {σ : Hp} {K : Hp → Prop} (hf : F_X3_settle_34 l G d  σ K) : Wd l G (d + 1) "CoinsLaid$Outlook" yX3_settle cX3_settle 13 none 34 [] [] σ 0 0 (xM (QV K)) := by
  unfold F_X3_settle_34 at hf
  exact r_return rfl dX3_settle_34 rfl ⟨rfl, hf⟩
def F_X3_settle_157 (l : Launch) (G : GG) (d : Nat) (X64 : Nat → Int32 → Int32 → Int32 → Int32 → Int32 → Int64 → Nat → Int32 → Int32 → Hp → Prop) (v0 : Nat) (v1 : Int32) (v2 : Int32) (v3 : Int32) (v4 : Int32) (v5 : Int32) (v6 : Int64) (v8 : Nat) (v9 : Int32) (v10 : Int32) (σ : Hp) (K : Hp → Prop) : Prop :=
  X64 v0 v1 v2 v3 v4 v5 v6 v8 v9 (v10 + 1) σ
set_option maxRecDepth 100000 in
set_option maxHeartbeats 4000000 in
theorem b_X3_settle_157 {l : Launch} {G : GG} {d : Nat} {X64 : Nat → Int32 → Int32 → Int32 → Int32 → Int32 → Int64 → Nat → Int32 → Int32 → Hp → Prop} {v0 : Nat} {v1 : Int32} {v2 : Int32} {v3 : Int32} {v4 : Int32} {v5 : Int32} {v6 : Int64} {v8 : Nat} {v9 : Int32} {v10 : Int32} {σ : Hp} {K : Hp → Prop} (hX64 : ∀ v0 v1 v2 v3 v4 v5 v6 v8 v9 v10 σ, X64 v0 v1 v2 v3 v4 v5 v6 v8 v9 v10 σ → Wd l G (d + 1) "CoinsLaid$Outlook" yX3_settle cX3_settle 13 none 64 [(0, aR (some v0)), (1, aI v1), (2, aI v2), (3, aI v3), (4, aI v4), (5, aI v5), (6, aJ v6), (8, aR (some v8)), (9, aI v9), (10, aI v10)] [] σ 0 0 (xM (QV K))) (hf : F_X3_settle_157 l G d X64 v0 v1 v2 v3 v4 v5 v6 v8 v9 v10 σ K) : Wd l G (d + 1) "CoinsLaid$Outlook" yX3_settle cX3_settle 13 none 157 [(0, aR (some v0)), (1, aI v1), (2, aI v2), (3, aI v3), (4, aI v4), (5, aI v5), (6, aJ v6), (8, aR (some v8)), (9, aI v9), (10, aI v10)] [] σ 0 0 (xM (QV K)) := by
  unfold F_X3_settle_157 at hf
  refine r_iinc (j := 9) (w := (v10 + 1)) (L' := [(10, aI (v10 + 1)), (0, aR (some v0)), (1, aI v1), (2, aI v2), (3, aI v3), (4, aI v4), (5, aI v5), (6, aJ v6), (8, aR (some v8)), (9, aI v9)]) rfl (by rfl) rfl (Nat.le_of_ble_eq_true rfl) dX3_settle_157 ?_
  refine r_goto (tgt := 64) (by decide) dX3_settle_160 ?_
  exact r_sub [1, 2, 3, 4, 5, 6, 7, 8, 9, 0] rfl (hX64 _ _ _ _ _ _ _ _ _ _ _ hf)
def F_X3_settle_64 (l : Launch) (G : GG) (d : Nat) (X64 : Nat → Int32 → Int32 → Int32 → Int32 → Int32 → Int64 → Nat → Int32 → Int32 → Hp → Prop) (v0 : Nat) (v1 : Int32) (v2 : Int32) (v3 : Int32) (v4 : Int32) (v5 : Int32) (v6 : Int64) (v8 : Nat) (v9 : Int32) (v10 : Int32) (σ : Hp) (K : Hp → Prop) : Prop :=
  ((v9 : Int32) ≤ (v10 : Int32) →
    C_X3_close l G d v0 v4 v5 v6 σ fun σ1 =>
    K σ1) ∧
  (¬ (v9 : Int32) ≤ (v10 : Int32) →
    gN 3 σ v8 v10 fun x3 =>
    C_X2_mayBe l G d x3 v1 v2 σ fun r5 σ4 =>
    (r5 = true →
      fI σ4 x3 2 6 fun x6 =>
      C_X3_settle l G d v0 (v1 ||| x6) (1 - v2) (v3 + 1) σ4 fun σ7 =>
      fI σ7 x3 2 6 fun x9 =>
      C_X3_stateOf l G d v0 (v1 ||| x9) (1 - v2) σ7 fun r11 σ10 =>
      ((r11 : Int32) = ((-1) : Int32) →
        F_X3_settle_157 l G d X64 v0 v1 v2 v3 v4 v5 v6 v8 v9 v10 σ10 K) ∧
      (¬ (r11 : Int32) = ((-1) : Int32) →
        C_X3_reckon l G d v0 v4 r11 σ10 fun σ12 =>
        fN σ12 v0 3 7 fun x14 =>
        gI σ12 x14 r11 fun x15 =>
        F_X3_settle_157 l G d X64 v0 v1 v2 v3 v4 (v5 + 1) (v6 + (((1000000 + x15) : Int32).toInt64)) v8 v9 v10 σ12 K)) ∧
    (r5 = false →
      F_X3_settle_157 l G d X64 v0 v1 v2 v3 v4 v5 v6 v8 v9 v10 σ4 K))
set_option maxRecDepth 100000 in
set_option maxHeartbeats 4000000 in
theorem b_X3_settle_64 {l : Launch} {G : GG} {d : Nat} {X64 : Nat → Int32 → Int32 → Int32 → Int32 → Int32 → Int64 → Nat → Int32 → Int32 → Hp → Prop} {v0 : Nat} {v1 : Int32} {v2 : Int32} {v3 : Int32} {v4 : Int32} {v5 : Int32} {v6 : Int64} {v8 : Nat} {v9 : Int32} {v10 : Int32} {σ : Hp} {K : Hp → Prop} (hX64 : ∀ v0 v1 v2 v3 v4 v5 v6 v8 v9 v10 σ, X64 v0 v1 v2 v3 v4 v5 v6 v8 v9 v10 σ → Wd l G (d + 1) "CoinsLaid$Outlook" yX3_settle cX3_settle 13 none 64 [(0, aR (some v0)), (1, aI v1), (2, aI v2), (3, aI v3), (4, aI v4), (5, aI v5), (6, aJ v6), (8, aR (some v8)), (9, aI v9), (10, aI v10)] [] σ 0 0 (xM (QV K))) (hf : F_X3_settle_64 l G d X64 v0 v1 v2 v3 v4 v5 v6 v8 v9 v10 σ K) : Wd l G (d + 1) "CoinsLaid$Outlook" yX3_settle cX3_settle 13 none 64 [(0, aR (some v0)), (1, aI v1), (2, aI v2), (3, aI v3), (4, aI v4), (5, aI v5), (6, aJ v6), (8, aR (some v8)), (9, aI v9), (10, aI v10)] [] σ 0 0 (xM (QV K)) := by
  unfold F_X3_settle_64 at hf
  refine r_iload (j := 9) rfl dX3_settle_64 ?_
  refine r_iload (j := 8) rfl dX3_settle_66 ?_
  refine r_icmpge (x := v10) (y := v9) (tgt := 163) (by decide) dX3_settle_68 (fun hc => ?_) (fun hc => ?_)
  · replace hf := hf.1 hc
    refine r_aload_n (j := 0) rfl rfl dX3_settle_163 ?_
    refine r_iload (j := 4) rfl dX3_settle_164 ?_
    refine r_iload (j := 5) rfl dX3_settle_166 ?_
    refine r_lload (j := 6) rfl dX3_settle_168 ?_
    try unfold C_X3_close at hf
    obtain ⟨⟨fs_r2, ha_r2⟩, hf⟩ := hf
    refine r_invVU (t := 3) (As := [aI v4, aI v5, aJ v6]) (dz := d) (mz := 0) (sz := 0) rfl wd_5_9 wd_5_11 wd_p_37 cf_X3_close (Nat.le_refl _) (Nat.zero_le _) (Nat.zero_le _) (cat_ok (Nat.le_of_ble_eq_true rfl)) rfl rfl ha_r2 dX3_settle_170 hf (fun σ1 hk => ?_)
    replace hf := hk
    clear hk
    exact r_return rfl dX3_settle_173 rfl ⟨rfl, hf⟩
  · replace hf := hf.2 hc
    refine r_aload (j := 7) rfl dX3_settle_71 ?_
    refine r_iload (j := 9) rfl dX3_settle_73 ?_
    obtain ⟨N_x3, f_x3, x3, ha_x3, hi_x3, hv_x3, hf⟩ := hf
    refine r_aald3 ha_x3 hi_x3 dX3_settle_75 ?_
    rw [hv_x3]
    refine r_astore (L' := [(11, aR (some x3)), (0, aR (some v0)), (1, aI v1), (2, aI v2), (3, aI v3), (4, aI v4), (5, aI v5), (6, aJ v6), (8, aR (some v8)), (9, aI v9), (10, aI v10)]) rfl (Nat.le_of_ble_eq_true rfl) dX3_settle_76 ?_
    refine r_aload (j := 0) rfl dX3_settle_78 ?_
    refine r_iload_n (j := 2) rfl rfl dX3_settle_80 ?_
    refine r_iload_n (j := 3) rfl rfl dX3_settle_81 ?_
    try unfold C_X2_mayBe at hf
    obtain ⟨⟨fs_r5, ha_r5⟩, hf⟩ := hf
    refine r_invVZ (t := 2) (As := [aI v1, aI v2]) (dz := d) (mz := 0) (sz := 0) rfl wd_4_233 wd_4_79 wd_4_80 cf_X2_mayBe (Nat.le_refl _) (Nat.zero_le _) (Nat.zero_le _) (cat_ok (Nat.le_of_ble_eq_true rfl)) rfl rfl ha_r5 dX3_settle_82 hf (fun r5 σ4 hk => ?_)
    replace hf := hk
    clear hk
    refine r_ifneZ (b := r5) (tgt := 91) (by decide) dX3_settle_85 (fun hc => ?_) (fun hc => ?_)
    · replace hf := hf.1 hc
      refine r_aload_n (j := 1) rfl rfl dX3_settle_91 ?_
      refine r_iload_n (j := 2) rfl rfl dX3_settle_92 ?_
      refine r_aload (j := 0) rfl dX3_settle_93 ?_
      obtain ⟨fs_x6, x6, ha_x6, hv_x6, hf⟩ := hf
      refine r_get (Cn := RX2) (Tt := TX2) (N := 9) (n := 6) rfl uw_X2 (Nat.le_of_ble_eq_true rfl) wd_4_31 ha_x6 hv_x6 dX3_settle_95 ?_
      refine r_ior (x := v1) (y := x6) dX3_settle_98 ?_
      refine r_iconst (v := 1) (by decide) dX3_settle_99 ?_
      refine r_iload_n (j := 3) rfl rfl dX3_settle_100 ?_
      refine r_isub (x := 1) (y := v2) dX3_settle_101 ?_
      refine r_iload_n (j := 4) rfl rfl dX3_settle_102 ?_
      refine r_iconst (v := 1) (by decide) dX3_settle_103 ?_
      refine r_iadd (x := v3) (y := 1) dX3_settle_104 ?_
      try unfold C_X3_settle at hf
      refine r_invSU (As := [aR (some v0), aI (v1 ||| x6), aI (1 - v2), aI (v3 + 1)]) (dz := d) (mz := 0) (sz := 0) rfl wd_4_222 wd_4_223 cf_X3_settle (Nat.le_refl _) (Nat.zero_le _) (Nat.zero_le _) (cat_ok (Nat.le_of_ble_eq_true rfl)) dX3_settle_105 hf (fun σ7 hk => ?_)
      replace hf := hk
      clear hk
      refine r_aload_n (j := 1) rfl rfl dX3_settle_108 ?_
      refine r_iload_n (j := 2) rfl rfl dX3_settle_109 ?_
      refine r_aload (j := 0) rfl dX3_settle_110 ?_
      obtain ⟨fs_x9, x9, ha_x9, hv_x9, hf⟩ := hf
      refine r_get (Cn := RX2) (Tt := TX2) (N := 9) (n := 6) rfl uw_X2 (Nat.le_of_ble_eq_true rfl) wd_4_31 ha_x9 hv_x9 dX3_settle_112 ?_
      refine r_ior (x := v1) (y := x9) dX3_settle_115 ?_
      refine r_iconst (v := 1) (by decide) dX3_settle_116 ?_
      refine r_iload_n (j := 3) rfl rfl dX3_settle_117 ?_
      refine r_isub (x := 1) (y := v2) dX3_settle_118 ?_
      try unfold C_X3_stateOf at hf
      obtain ⟨⟨fs_r11, ha_r11⟩, hf⟩ := hf
      refine r_invVI (t := 3) (As := [aI (v1 ||| x9), aI (1 - v2)]) (dz := d) (mz := 0) (sz := 0) rfl wd_4_225 wd_4_227 wd_p_33 cf_X3_stateOf (Nat.le_refl _) (Nat.zero_le _) (Nat.zero_le _) (cat_ok (Nat.le_of_ble_eq_true rfl)) rfl rfl ha_r11 dX3_settle_119 hf (fun r11 σ10 hk => ?_)
      replace hf := hk
      clear hk
      refine r_istore (L' := [(12, aI r11), (11, aR (some x3)), (0, aR (some v0)), (1, aI v1), (2, aI v2), (3, aI v3), (4, aI v4), (5, aI v5), (6, aJ v6), (8, aR (some v8)), (9, aI v9), (10, aI v10)]) rfl (Nat.le_of_ble_eq_true rfl) dX3_settle_122 ?_
      refine r_iload (j := 0) rfl dX3_settle_124 ?_
      refine r_iconst (v := (-1)) (by decide) dX3_settle_126 ?_
      refine r_icmpeq (x := r11) (y := (-1)) (tgt := 157) (by decide) dX3_settle_127 (fun hc => ?_) (fun hc => ?_)
      · replace hf := hf.1 hc
        exact r_sub [2, 3, 4, 5, 6, 7, 8, 9, 10, 11] rfl (b_X3_settle_157 hX64 hf)
      · replace hf := hf.2 hc
        refine r_aload_n (j := 2) rfl rfl dX3_settle_130 ?_
        refine r_iload (j := 6) rfl dX3_settle_131 ?_
        refine r_iload (j := 0) rfl dX3_settle_133 ?_
        try unfold C_X3_reckon at hf
        obtain ⟨⟨fs_r13, ha_r13⟩, hf⟩ := hf
        refine r_invVU (t := 3) (As := [aI v4, aI r11]) (dz := d) (mz := 0) (sz := 0) rfl wd_4_234 wd_4_236 wd_p_35 cf_X3_reckon (Nat.le_refl _) (Nat.zero_le _) (Nat.zero_le _) (cat_ok (Nat.le_of_ble_eq_true rfl)) rfl rfl ha_r13 dX3_settle_135 hf (fun σ12 hk => ?_)
        replace hf := hk
        clear hk
        refine r_lload (j := 8) rfl dX3_settle_138 ?_
        refine r_ldc wd_5_8 dX3_settle_140 ?_
        refine r_aload_n (j := 2) rfl rfl dX3_settle_142 ?_
        obtain ⟨fs_x14, x14, ha_x14, hv_x14, hf⟩ := hf
        refine r_get (Cn := RX3) (Tt := TX3) (N := 11) (n := 7) rfl uw_X3 (Nat.le_of_ble_eq_true rfl) wd_1_53 ha_x14 hv_x14 dX3_settle_143 ?_
        refine r_iload (j := 0) rfl dX3_settle_146 ?_
        obtain ⟨N_x15, f_x15, ha_x15, hi_x15, hf⟩ := hf
        refine r_iald ha_x15 hi_x15 dX3_settle_148 ?_
        generalize f_x15 (r11 : Int32).toNatClampNeg = x15 at hf ⊢
        refine r_iadd (x := 1000000) (y := x15) dX3_settle_149 ?_
        refine r_i2l (x := (1000000 + x15)) dX3_settle_150 ?_
        refine r_ladd (x := v6) (y := (((1000000 + x15) : Int32).toInt64)) dX3_settle_151 ?_
        refine r_lstore (L' := [(6, aJ (v6 + (((1000000 + x15) : Int32).toInt64))), (12, aI r11), (11, aR (some x3)), (0, aR (some v0)), (1, aI v1), (2, aI v2), (3, aI v3), (4, aI v4), (5, aI v5), (8, aR (some v8)), (9, aI v9), (10, aI v10)]) rfl (Nat.le_of_ble_eq_true rfl) dX3_settle_152 ?_
        refine r_iinc (j := 8) (w := (v5 + 1)) (L' := [(5, aI (v5 + 1)), (6, aJ (v6 + (((1000000 + x15) : Int32).toInt64))), (12, aI r11), (11, aR (some x3)), (0, aR (some v0)), (1, aI v1), (2, aI v2), (3, aI v3), (4, aI v4), (8, aR (some v8)), (9, aI v9), (10, aI v10)]) rfl (by rfl) rfl (Nat.le_of_ble_eq_true rfl) dX3_settle_154 ?_
        exact r_sub [4, 5, 6, 7, 8, 0, 1, 9, 10, 11] rfl (b_X3_settle_157 hX64 hf)
    · replace hf := hf.2 hc
      refine r_goto (tgt := 157) (by decide) dX3_settle_88 ?_
      exact r_sub [1, 2, 3, 4, 5, 6, 7, 8, 9, 10] rfl (b_X3_settle_157 hX64 hf)
def Z_X3_settle_64 (l : Launch) (G : GG) (d : Nat) (K : Hp → Prop) : Nat → Nat → Int32 → Int32 → Int32 → Int32 → Int32 → Int64 → Nat → Int32 → Int32 → Hp → Prop
  | 0 => fun _ _ _ _ _ _ _ _ _ _ _ => False
  | n + 1 => fun v0 v1 v2 v3 v4 v5 v6 v8 v9 v10 σ => F_X3_settle_64 l G d (Z_X3_settle_64 l G d K n) v0 v1 v2 v3 v4 v5 v6 v8 v9 v10 σ K
theorem z_X3_settle_64 {l : Launch} {G : GG} {d : Nat} {K : Hp → Prop} : ∀ (n : Nat) v0 v1 v2 v3 v4 v5 v6 v8 v9 v10 σ, Z_X3_settle_64 l G d K n v0 v1 v2 v3 v4 v5 v6 v8 v9 v10 σ → Wd l G (d + 1) "CoinsLaid$Outlook" yX3_settle cX3_settle 13 none 64 [(0, aR (some v0)), (1, aI v1), (2, aI v2), (3, aI v3), (4, aI v4), (5, aI v5), (6, aJ v6), (8, aR (some v8)), (9, aI v9), (10, aI v10)] [] σ 0 0 (xM (QV K)) := by
  intro n
  induction n with
  | zero => intro v0 v1 v2 v3 v4 v5 v6 v8 v9 v10 σ hf; exact hf.elim
  | succ n ih => intro v0 v1 v2 v3 v4 v5 v6 v8 v9 v10 σ hf; exact b_X3_settle_64 ih hf
def F_X3_settle (l : Launch) (G : GG) (d : Nat) (v0 : Nat) (v1 : Int32) (v2 : Int32) (v3 : Int32) (σ : Hp) (K : Hp → Prop) : Prop :=
  C_X3_stateOf l G d v0 v1 v2 σ fun r17 σ16 =>
  ((r17 : Int32) = ((-1) : Int32) →
    F_X3_settle_34 l G d σ16 K) ∧
  (¬ (r17 : Int32) = ((-1) : Int32) →
    fN σ16 v0 3 2 fun x18 =>
    gI σ16 x18 r17 fun x19 =>
    fI σ16 v0 3 1 fun x20 =>
    ((x19 : Int32) = (x20 : Int32) →
      F_X3_settle_34 l G d σ16 K) ∧
    (¬ (x19 : Int32) = (x20 : Int32) →
      ((v3 : Int32) ≤ (14 : Int32) →
        C_X3_clear l G d v0 r17 σ16 fun σ21 =>
        fR σ21 v0 3 0 fun x23 =>
        ∃ b24, x23 = some b24 ∧
        fN σ21 b24 8 8 fun x25 =>
        aL σ21 x25 fun x26 =>
        ∃ n, Z_X3_settle_64 l G d K n v0 v1 v2 v3 r17 0 (0 : Int64) x25 x26 0 σ21) ∧
      (¬ (v3 : Int32) ≤ (14 : Int32) →
        F_X3_settle_34 l G d σ16 K)))
set_option maxRecDepth 100000 in
set_option maxHeartbeats 4000000 in
theorem b_X3_settle_0 {l : Launch} {G : GG} {d : Nat} {v0 : Nat} {v1 : Int32} {v2 : Int32} {v3 : Int32} {σ : Hp} {K : Hp → Prop} (hf : F_X3_settle l G d v0 v1 v2 v3 σ K) : Wd l G (d + 1) "CoinsLaid$Outlook" yX3_settle cX3_settle 13 none 0 [(0, aR (some v0)), (1, aI v1), (2, aI v2), (3, aI v3)] [] σ 0 0 (xM (QV K)) := by
  unfold F_X3_settle at hf
  refine r_aload_n (j := 0) rfl rfl dX3_settle_0 ?_
  refine r_iload_n (j := 1) rfl rfl dX3_settle_1 ?_
  refine r_iload_n (j := 2) rfl rfl dX3_settle_2 ?_
  try unfold C_X3_stateOf at hf
  obtain ⟨⟨fs_r17, ha_r17⟩, hf⟩ := hf
  refine r_invVI (t := 3) (As := [aI v1, aI v2]) (dz := d) (mz := 0) (sz := 0) rfl wd_4_225 wd_4_227 wd_p_33 cf_X3_stateOf (Nat.le_refl _) (Nat.zero_le _) (Nat.zero_le _) (cat_ok (Nat.le_of_ble_eq_true rfl)) rfl rfl ha_r17 dX3_settle_3 hf (fun r17 σ16 hk => ?_)
  replace hf := hk
  clear hk
  refine r_istore (L' := [(4, aI r17), (0, aR (some v0)), (1, aI v1), (2, aI v2), (3, aI v3)]) rfl (Nat.le_of_ble_eq_true rfl) dX3_settle_6 ?_
  refine r_iload (j := 0) rfl dX3_settle_8 ?_
  refine r_iconst (v := (-1)) (by decide) dX3_settle_10 ?_
  refine r_icmpeq (x := r17) (y := (-1)) (tgt := 34) (by decide) dX3_settle_11 (fun hc => ?_) (fun hc => ?_)
  · replace hf := hf.1 hc
    exact r_sub [] rfl (b_X3_settle_34 hf)
  · replace hf := hf.2 hc
    refine r_aload_n (j := 1) rfl rfl dX3_settle_14 ?_
    obtain ⟨fs_x18, x18, ha_x18, hv_x18, hf⟩ := hf
    refine r_get (Cn := RX3) (Tt := TX3) (N := 11) (n := 2) rfl uw_X3 (Nat.le_of_ble_eq_true rfl) wd_1_48 ha_x18 hv_x18 dX3_settle_15 ?_
    refine r_iload (j := 0) rfl dX3_settle_18 ?_
    obtain ⟨N_x19, f_x19, ha_x19, hi_x19, hf⟩ := hf
    refine r_iald ha_x19 hi_x19 dX3_settle_20 ?_
    generalize f_x19 (r17 : Int32).toNatClampNeg = x19 at hf ⊢
    refine r_aload_n (j := 1) rfl rfl dX3_settle_21 ?_
    obtain ⟨fs_x20, x20, ha_x20, hv_x20, hf⟩ := hf
    refine r_get (Cn := RX3) (Tt := TX3) (N := 11) (n := 1) rfl uw_X3 (Nat.le_of_ble_eq_true rfl) wd_1_47 ha_x20 hv_x20 dX3_settle_22 ?_
    refine r_icmpeq (x := x19) (y := x20) (tgt := 34) (by decide) dX3_settle_25 (fun hc => ?_) (fun hc => ?_)
    · replace hf := hf.1 hc
      exact r_sub [] rfl (b_X3_settle_34 hf)
    · replace hf := hf.2 hc
      refine r_iload_n (j := 4) rfl rfl dX3_settle_28 ?_
      refine r_bipush (v := 14) (by decide) dX3_settle_29 ?_
      refine r_icmple (x := v3) (y := 14) (tgt := 35) (by decide) dX3_settle_31 (fun hc => ?_) (fun hc => ?_)
      · replace hf := hf.1 hc
        refine r_aload_n (j := 1) rfl rfl dX3_settle_35 ?_
        refine r_iload (j := 0) rfl dX3_settle_36 ?_
        try unfold C_X3_clear at hf
        obtain ⟨⟨fs_r22, ha_r22⟩, hf⟩ := hf
        refine r_invVU (t := 3) (As := [aI r17]) (dz := d) (mz := 0) (sz := 0) rfl wd_4_229 wd_4_231 wd_p_34 cf_X3_clear (Nat.le_refl _) (Nat.zero_le _) (Nat.zero_le _) (cat_ok (Nat.le_of_ble_eq_true rfl)) rfl rfl ha_r22 dX3_settle_38 hf (fun σ21 hk => ?_)
        replace hf := hk
        clear hk
        refine r_iconst (v := 0) (by decide) dX3_settle_41 ?_
        refine r_istore (L' := [(5, aI 0), (4, aI r17), (0, aR (some v0)), (1, aI v1), (2, aI v2), (3, aI v3)]) rfl (Nat.le_of_ble_eq_true rfl) dX3_settle_42 ?_
        refine r_lconst (v := 0) (by decide) dX3_settle_44 ?_
        refine r_lstore (L' := [(6, aJ (0 : Int64)), (5, aI 0), (4, aI r17), (0, aR (some v0)), (1, aI v1), (2, aI v2), (3, aI v3)]) rfl (Nat.le_of_ble_eq_true rfl) dX3_settle_45 ?_
        refine r_aload_n (j := 3) rfl rfl dX3_settle_47 ?_
        obtain ⟨fs_x23, x23, ha_x23, hv_x23, hf⟩ := hf
        refine r_get (Cn := RX3) (Tt := TX3) (N := 11) (n := 0) rfl uw_X3 (Nat.le_of_ble_eq_true rfl) wd_1_45 ha_x23 hv_x23 dX3_settle_48 ?_
        obtain ⟨b24, hb_b24, hf⟩ := hf
        subst hb_b24
        obtain ⟨fs_x25, x25, ha_x25, hv_x25, hf⟩ := hf
        refine r_get (Cn := RX8) (Tt := TX8) (N := 9) (n := 8) rfl uw_X8 (Nat.le_of_ble_eq_true rfl) wd_2_82 ha_x25 hv_x25 dX3_settle_51 ?_
        refine r_astore (L' := [(8, aR (some x25)), (6, aJ (0 : Int64)), (5, aI 0), (4, aI r17), (0, aR (some v0)), (1, aI v1), (2, aI v2), (3, aI v3)]) rfl (Nat.le_of_ble_eq_true rfl) dX3_settle_54 ?_
        refine r_aload (j := 0) rfl dX3_settle_56 ?_
        obtain ⟨t_x26, N_x26, f_x26, ha_x26, hf⟩ := hf
        refine r_alen ha_x26 dX3_settle_58 ?_
        generalize nI N_x26 = x26 at hf ⊢
        refine r_istore (L' := [(9, aI x26), (8, aR (some x25)), (6, aJ (0 : Int64)), (5, aI 0), (4, aI r17), (0, aR (some v0)), (1, aI v1), (2, aI v2), (3, aI v3)]) rfl (Nat.le_of_ble_eq_true rfl) dX3_settle_59 ?_
        refine r_iconst (v := 0) (by decide) dX3_settle_61 ?_
        refine r_istore (L' := [(10, aI 0), (9, aI x26), (8, aR (some x25)), (6, aJ (0 : Int64)), (5, aI 0), (4, aI r17), (0, aR (some v0)), (1, aI v1), (2, aI v2), (3, aI v3)]) rfl (Nat.le_of_ble_eq_true rfl) dX3_settle_62 ?_
        obtain ⟨n, hf⟩ := hf
        exact r_sub [6, 7, 8, 9, 5, 4, 3, 2, 1, 0] rfl (z_X3_settle_64 n _ _ _ _ _ _ _ _ _ _ _ hf)
      · replace hf := hf.2 hc
        exact r_sub [] rfl (b_X3_settle_34 hf)
theorem m_X3_settle {l : Launch} {G : GG} {d : Nat} {v0 : Nat} {v1 : Int32} {v2 : Int32} {v3 : Int32} {σ : Hp} {K : Hp → Prop} (hf : F_X3_settle l G d v0 v1 v2 v3 σ K) : C_X3_settle l G (d + 1) v0 v1 v2 v3 σ K := Sp.of (by decide) (Nat.le_of_ble_eq_true rfl) (b_X3_settle_0 hf) rfl
def F_X3_clear (l : Launch) (G : GG) (d : Nat) (v0 : Nat) (v1 : Int32) (σ : Hp) (K : Hp → Prop) : Prop :=
  fN σ v0 3 3 fun x1 =>
  sZ σ x1 v1 false fun σ2 =>
  fN σ2 v0 3 4 fun x4 =>
  sI σ2 x4 v1 0 fun σ5 =>
  fN σ5 v0 3 5 fun x7 =>
  sI σ5 x7 v1 14 fun σ8 =>
  fN σ8 v0 3 6 fun x10 =>
  sI σ8 x10 v1 0 fun σ11 =>
  fN σ11 v0 3 8 fun x13 =>
  sJ σ11 x13 v1 (0 : Int64) fun σ14 =>
  K σ14
set_option maxRecDepth 100000 in
set_option maxHeartbeats 4000000 in
theorem b_X3_clear_0 {l : Launch} {G : GG} {d : Nat} {v0 : Nat} {v1 : Int32} {σ : Hp} {K : Hp → Prop} (hf : F_X3_clear l G d v0 v1 σ K) : Wd l G (d + 1) "CoinsLaid$Outlook" yX3_clear cX3_clear 2 none 0 [(0, aR (some v0)), (1, aI v1)] [] σ 0 0 (xM (QV K)) := by
  unfold F_X3_clear at hf
  refine r_aload_n (j := 0) rfl rfl dX3_clear_0 ?_
  obtain ⟨fs_x1, x1, ha_x1, hv_x1, hf⟩ := hf
  refine r_get (Cn := RX3) (Tt := TX3) (N := 11) (n := 3) rfl uw_X3 (Nat.le_of_ble_eq_true rfl) wd_1_49 ha_x1 hv_x1 dX3_clear_1 ?_
  refine r_iload_n (j := 1) rfl rfl dX3_clear_4 ?_
  refine r_iconst (v := 0) (by decide) dX3_clear_5 ?_
  obtain ⟨N_x3, f_x3, ha_x3, hi_x3, hf⟩ := hf
  generalize hσ2 : hset σ x1 (zA N_x3 (up_ f_x3 (v1 : Int32).toNatClampNeg false)) = σ2 at hf
  refine r_zast (f := f_x3) (x := false) ha_x3 hi_x3 dX3_clear_6 ?_
  refine Eq.mpr (congrArg (fun z => Wd _ _ _ _ _ _ _ _ _ _ _ z _ _ _) hσ2) ?_
  refine r_aload_n (j := 0) rfl rfl dX3_clear_7 ?_
  obtain ⟨fs_x4, x4, ha_x4, hv_x4, hf⟩ := hf
  refine r_get (Cn := RX3) (Tt := TX3) (N := 11) (n := 4) rfl uw_X3 (Nat.le_of_ble_eq_true rfl) wd_1_50 ha_x4 hv_x4 dX3_clear_8 ?_
  refine r_iload_n (j := 1) rfl rfl dX3_clear_11 ?_
  refine r_iconst (v := 0) (by decide) dX3_clear_12 ?_
  obtain ⟨N_x6, f_x6, ha_x6, hi_x6, hf⟩ := hf
  generalize hσ5 : hset σ2 x4 (iA N_x6 (up_ f_x6 (v1 : Int32).toNatClampNeg 0)) = σ5 at hf
  refine r_iast (f := f_x6) (x := 0) ha_x6 hi_x6 dX3_clear_13 ?_
  refine Eq.mpr (congrArg (fun z => Wd _ _ _ _ _ _ _ _ _ _ _ z _ _ _) hσ5) ?_
  refine r_aload_n (j := 0) rfl rfl dX3_clear_14 ?_
  obtain ⟨fs_x7, x7, ha_x7, hv_x7, hf⟩ := hf
  refine r_get (Cn := RX3) (Tt := TX3) (N := 11) (n := 5) rfl uw_X3 (Nat.le_of_ble_eq_true rfl) wd_1_51 ha_x7 hv_x7 dX3_clear_15 ?_
  refine r_iload_n (j := 1) rfl rfl dX3_clear_18 ?_
  refine r_bipush (v := 14) (by decide) dX3_clear_19 ?_
  obtain ⟨N_x9, f_x9, ha_x9, hi_x9, hf⟩ := hf
  generalize hσ8 : hset σ5 x7 (iA N_x9 (up_ f_x9 (v1 : Int32).toNatClampNeg 14)) = σ8 at hf
  refine r_iast (f := f_x9) (x := 14) ha_x9 hi_x9 dX3_clear_21 ?_
  refine Eq.mpr (congrArg (fun z => Wd _ _ _ _ _ _ _ _ _ _ _ z _ _ _) hσ8) ?_
  refine r_aload_n (j := 0) rfl rfl dX3_clear_22 ?_
  obtain ⟨fs_x10, x10, ha_x10, hv_x10, hf⟩ := hf
  refine r_get (Cn := RX3) (Tt := TX3) (N := 11) (n := 6) rfl uw_X3 (Nat.le_of_ble_eq_true rfl) wd_1_52 ha_x10 hv_x10 dX3_clear_23 ?_
  refine r_iload_n (j := 1) rfl rfl dX3_clear_26 ?_
  refine r_iconst (v := 0) (by decide) dX3_clear_27 ?_
  obtain ⟨N_x12, f_x12, ha_x12, hi_x12, hf⟩ := hf
  generalize hσ11 : hset σ8 x10 (iA N_x12 (up_ f_x12 (v1 : Int32).toNatClampNeg 0)) = σ11 at hf
  refine r_iast (f := f_x12) (x := 0) ha_x12 hi_x12 dX3_clear_28 ?_
  refine Eq.mpr (congrArg (fun z => Wd _ _ _ _ _ _ _ _ _ _ _ z _ _ _) hσ11) ?_
  refine r_aload_n (j := 0) rfl rfl dX3_clear_29 ?_
  obtain ⟨fs_x13, x13, ha_x13, hv_x13, hf⟩ := hf
  refine r_get (Cn := RX3) (Tt := TX3) (N := 11) (n := 8) rfl uw_X3 (Nat.le_of_ble_eq_true rfl) wd_1_54 ha_x13 hv_x13 dX3_clear_30 ?_
  refine r_iload_n (j := 1) rfl rfl dX3_clear_33 ?_
  refine r_lconst (v := 0) (by decide) dX3_clear_34 ?_
  obtain ⟨N_x15, f_x15, ha_x15, hi_x15, hf⟩ := hf
  generalize hσ14 : hset σ11 x13 (jA N_x15 (up_ f_x15 (v1 : Int32).toNatClampNeg (0 : Int64))) = σ14 at hf
  refine r_last (f := f_x15) (x := (0 : Int64)) ha_x15 hi_x15 dX3_clear_35 ?_
  refine Eq.mpr (congrArg (fun z => Wd _ _ _ _ _ _ _ _ _ _ _ z _ _ _) hσ14) ?_
  exact r_return rfl dX3_clear_36 rfl ⟨rfl, hf⟩
theorem m_X3_clear {l : Launch} {G : GG} {d : Nat} {v0 : Nat} {v1 : Int32} {σ : Hp} {K : Hp → Prop} (hr : rv σ v0 3) (hf : F_X3_clear l G d v0 v1 σ K) : C_X3_clear l G (d + 1) v0 v1 σ K := ⟨hr, Sp.of (by decide) (Nat.le_of_ble_eq_true rfl) (b_X3_clear_0 hf) rfl⟩
def F_X3_reckon_16 (l : Launch) (G : GG) (d : Nat) (v0 : Nat) (v1 : Int32) (v2 : Int32) (s0 : Nat) (s1 : Int32) (s2 : Bool) (σ : Hp) (K : Hp → Prop) : Prop :=
  fN σ v0 3 4 fun x1 =>
  gI σ x1 v2 fun x2 =>
  C_X3_reckonWinner l G d s0 s1 s2 (x2 + 1) σ fun σ3 =>
  fN σ3 v0 3 5 fun x5 =>
  fN σ3 v0 3 5 fun x6 =>
  gI σ3 x6 v1 fun x7 =>
  fN σ3 v0 3 5 fun x8 =>
  gI σ3 x8 v2 fun x9 =>
  sI σ3 x5 v1 (if ((x9 + 1) : Int32) < x7 then (x9 + 1) else x7) fun σ10 =>
  fN σ10 v0 3 6 fun x12 =>
  fN σ10 v0 3 6 fun x13 =>
  gI σ10 x13 v1 fun x14 =>
  fN σ10 v0 3 6 fun x15 =>
  gI σ10 x15 v2 fun x16 =>
  sI σ10 x12 v1 (if (x14 : Int32) < (x16 + 1) then (x16 + 1) else x14) fun σ17 =>
  fN σ17 v0 3 8 fun x19 =>
  fN σ17 v0 3 8 fun x20 =>
  gJ σ17 x20 v1 fun x21 =>
  fN σ17 v0 3 8 fun x22 =>
  gJ σ17 x22 v2 fun x23 =>
  sJ σ17 x19 v1 (if ((1000000000000000000 : Int64) : Int64) < (x21 + x23) then (1000000000000000000 : Int64) else (x21 + x23)) fun σ24 =>
  K σ24
set_option maxRecDepth 100000 in
set_option maxHeartbeats 4000000 in
theorem b_X3_reckon_16 {l : Launch} {G : GG} {d : Nat} {v0 : Nat} {v1 : Int32} {v2 : Int32} {s0 : Nat} {s1 : Int32} {s2 : Bool} {σ : Hp} {K : Hp → Prop} (hf : F_X3_reckon_16 l G d v0 v1 v2 s0 s1 s2 σ K) : Wd l G (d + 1) "CoinsLaid$Outlook" yX3_reckon cX3_reckon 3 none 16 [(0, aR (some v0)), (1, aI v1), (2, aI v2)] [aI (bi s2), aI s1, aR (some s0)] σ 0 0 (xM (QV K)) := by
  unfold F_X3_reckon_16 at hf
  refine r_aload_n (j := 0) rfl rfl dX3_reckon_16 ?_
  obtain ⟨fs_x1, x1, ha_x1, hv_x1, hf⟩ := hf
  refine r_get (Cn := RX3) (Tt := TX3) (N := 11) (n := 4) rfl uw_X3 (Nat.le_of_ble_eq_true rfl) wd_1_50 ha_x1 hv_x1 dX3_reckon_17 ?_
  refine r_iload_n (j := 2) rfl rfl dX3_reckon_20 ?_
  obtain ⟨N_x2, f_x2, ha_x2, hi_x2, hf⟩ := hf
  refine r_iald ha_x2 hi_x2 dX3_reckon_21 ?_
  generalize f_x2 (v2 : Int32).toNatClampNeg = x2 at hf ⊢
  refine r_iconst (v := 1) (by decide) dX3_reckon_22 ?_
  refine r_iadd (x := x2) (y := 1) dX3_reckon_23 ?_
  try unfold C_X3_reckonWinner at hf
  obtain ⟨⟨fs_r4, ha_r4⟩, hf⟩ := hf
  refine r_invVU (t := 3) (As := [aI s1, aI (bi s2), aI (x2 + 1)]) (dz := d) (mz := 0) (sz := 0) rfl wd_4_238 wd_5_0 wd_p_36 cf_X3_reckonWinner (Nat.le_refl _) (Nat.zero_le _) (Nat.zero_le _) (cat_ok (Nat.le_of_ble_eq_true rfl)) rfl rfl ha_r4 dX3_reckon_24 hf (fun σ3 hk => ?_)
  replace hf := hk
  clear hk
  refine r_aload_n (j := 0) rfl rfl dX3_reckon_27 ?_
  obtain ⟨fs_x5, x5, ha_x5, hv_x5, hf⟩ := hf
  refine r_get (Cn := RX3) (Tt := TX3) (N := 11) (n := 5) rfl uw_X3 (Nat.le_of_ble_eq_true rfl) wd_1_51 ha_x5 hv_x5 dX3_reckon_28 ?_
  refine r_iload_n (j := 1) rfl rfl dX3_reckon_31 ?_
  refine r_aload_n (j := 0) rfl rfl dX3_reckon_32 ?_
  obtain ⟨fs_x6, x6, ha_x6, hv_x6, hf⟩ := hf
  refine r_get (Cn := RX3) (Tt := TX3) (N := 11) (n := 5) rfl uw_X3 (Nat.le_of_ble_eq_true rfl) wd_1_51 ha_x6 hv_x6 dX3_reckon_33 ?_
  refine r_iload_n (j := 1) rfl rfl dX3_reckon_36 ?_
  obtain ⟨N_x7, f_x7, ha_x7, hi_x7, hf⟩ := hf
  refine r_iald ha_x7 hi_x7 dX3_reckon_37 ?_
  generalize f_x7 (v1 : Int32).toNatClampNeg = x7 at hf ⊢
  refine r_aload_n (j := 0) rfl rfl dX3_reckon_38 ?_
  obtain ⟨fs_x8, x8, ha_x8, hv_x8, hf⟩ := hf
  refine r_get (Cn := RX3) (Tt := TX3) (N := 11) (n := 5) rfl uw_X3 (Nat.le_of_ble_eq_true rfl) wd_1_51 ha_x8 hv_x8 dX3_reckon_39 ?_
  refine r_iload_n (j := 2) rfl rfl dX3_reckon_42 ?_
  obtain ⟨N_x9, f_x9, ha_x9, hi_x9, hf⟩ := hf
  refine r_iald ha_x9 hi_x9 dX3_reckon_43 ?_
  generalize f_x9 (v2 : Int32).toNatClampNeg = x9 at hf ⊢
  refine r_iconst (v := 1) (by decide) dX3_reckon_44 ?_
  refine r_iadd (x := x9) (y := 1) dX3_reckon_45 ?_
  refine r_mmin (x := x7) (y := (x9 + 1)) wd_5_2 wd_3_136 wd_1_21 wd_3_137 (Nat.le_add_left 1 d) (cat_ok (Nat.le_of_ble_eq_true rfl)) dX3_reckon_46 ?_
  obtain ⟨N_x11, f_x11, ha_x11, hi_x11, hf⟩ := hf
  generalize hσ10 : hset σ3 x5 (iA N_x11 (up_ f_x11 (v1 : Int32).toNatClampNeg (if ((x9 + 1) : Int32) < x7 then (x9 + 1) else x7))) = σ10 at hf
  refine r_iast (f := f_x11) (x := (if ((x9 + 1) : Int32) < x7 then (x9 + 1) else x7)) ha_x11 hi_x11 dX3_reckon_49 ?_
  refine Eq.mpr (congrArg (fun z => Wd _ _ _ _ _ _ _ _ _ _ _ z _ _ _) hσ10) ?_
  refine r_aload_n (j := 0) rfl rfl dX3_reckon_50 ?_
  obtain ⟨fs_x12, x12, ha_x12, hv_x12, hf⟩ := hf
  refine r_get (Cn := RX3) (Tt := TX3) (N := 11) (n := 6) rfl uw_X3 (Nat.le_of_ble_eq_true rfl) wd_1_52 ha_x12 hv_x12 dX3_reckon_51 ?_
  refine r_iload_n (j := 1) rfl rfl dX3_reckon_54 ?_
  refine r_aload_n (j := 0) rfl rfl dX3_reckon_55 ?_
  obtain ⟨fs_x13, x13, ha_x13, hv_x13, hf⟩ := hf
  refine r_get (Cn := RX3) (Tt := TX3) (N := 11) (n := 6) rfl uw_X3 (Nat.le_of_ble_eq_true rfl) wd_1_52 ha_x13 hv_x13 dX3_reckon_56 ?_
  refine r_iload_n (j := 1) rfl rfl dX3_reckon_59 ?_
  obtain ⟨N_x14, f_x14, ha_x14, hi_x14, hf⟩ := hf
  refine r_iald ha_x14 hi_x14 dX3_reckon_60 ?_
  generalize f_x14 (v1 : Int32).toNatClampNeg = x14 at hf ⊢
  refine r_aload_n (j := 0) rfl rfl dX3_reckon_61 ?_
  obtain ⟨fs_x15, x15, ha_x15, hv_x15, hf⟩ := hf
  refine r_get (Cn := RX3) (Tt := TX3) (N := 11) (n := 6) rfl uw_X3 (Nat.le_of_ble_eq_true rfl) wd_1_52 ha_x15 hv_x15 dX3_reckon_62 ?_
  refine r_iload_n (j := 2) rfl rfl dX3_reckon_65 ?_
  obtain ⟨N_x16, f_x16, ha_x16, hi_x16, hf⟩ := hf
  refine r_iald ha_x16 hi_x16 dX3_reckon_66 ?_
  generalize f_x16 (v2 : Int32).toNatClampNeg = x16 at hf ⊢
  refine r_iconst (v := 1) (by decide) dX3_reckon_67 ?_
  refine r_iadd (x := x16) (y := 1) dX3_reckon_68 ?_
  refine r_mmax (x := x14) (y := (x16 + 1)) wd_5_3 wd_3_101 wd_1_21 wd_3_102 (Nat.le_add_left 1 d) (cat_ok (Nat.le_of_ble_eq_true rfl)) dX3_reckon_69 ?_
  obtain ⟨N_x18, f_x18, ha_x18, hi_x18, hf⟩ := hf
  generalize hσ17 : hset σ10 x12 (iA N_x18 (up_ f_x18 (v1 : Int32).toNatClampNeg (if (x14 : Int32) < (x16 + 1) then (x16 + 1) else x14))) = σ17 at hf
  refine r_iast (f := f_x18) (x := (if (x14 : Int32) < (x16 + 1) then (x16 + 1) else x14)) ha_x18 hi_x18 dX3_reckon_72 ?_
  refine Eq.mpr (congrArg (fun z => Wd _ _ _ _ _ _ _ _ _ _ _ z _ _ _) hσ17) ?_
  refine r_aload_n (j := 0) rfl rfl dX3_reckon_73 ?_
  obtain ⟨fs_x19, x19, ha_x19, hv_x19, hf⟩ := hf
  refine r_get (Cn := RX3) (Tt := TX3) (N := 11) (n := 8) rfl uw_X3 (Nat.le_of_ble_eq_true rfl) wd_1_54 ha_x19 hv_x19 dX3_reckon_74 ?_
  refine r_iload_n (j := 1) rfl rfl dX3_reckon_77 ?_
  refine r_aload_n (j := 0) rfl rfl dX3_reckon_78 ?_
  obtain ⟨fs_x20, x20, ha_x20, hv_x20, hf⟩ := hf
  refine r_get (Cn := RX3) (Tt := TX3) (N := 11) (n := 8) rfl uw_X3 (Nat.le_of_ble_eq_true rfl) wd_1_54 ha_x20 hv_x20 dX3_reckon_79 ?_
  refine r_iload_n (j := 1) rfl rfl dX3_reckon_82 ?_
  obtain ⟨N_x21, f_x21, ha_x21, hi_x21, hf⟩ := hf
  refine r_lald ha_x21 hi_x21 dX3_reckon_83 ?_
  generalize f_x21 (v1 : Int32).toNatClampNeg = x21 at hf ⊢
  refine r_aload_n (j := 0) rfl rfl dX3_reckon_84 ?_
  obtain ⟨fs_x22, x22, ha_x22, hv_x22, hf⟩ := hf
  refine r_get (Cn := RX3) (Tt := TX3) (N := 11) (n := 8) rfl uw_X3 (Nat.le_of_ble_eq_true rfl) wd_1_54 ha_x22 hv_x22 dX3_reckon_85 ?_
  refine r_iload_n (j := 2) rfl rfl dX3_reckon_88 ?_
  obtain ⟨N_x23, f_x23, ha_x23, hi_x23, hf⟩ := hf
  refine r_lald ha_x23 hi_x23 dX3_reckon_89 ?_
  generalize f_x23 (v2 : Int32).toNatClampNeg = x23 at hf ⊢
  refine r_ladd (x := x21) (y := x23) dX3_reckon_90 ?_
  refine r_ldc2 wd_5_4 dX3_reckon_91 ?_
  refine r_mminJ (x := (x21 + x23)) (y := (1000000000000000000 : Int64)) wd_5_5 wd_5_6 wd_1_21 wd_5_7 (Nat.le_add_left 1 d) (cat_ok (Nat.le_of_ble_eq_true rfl)) dX3_reckon_94 ?_
  obtain ⟨N_x25, f_x25, ha_x25, hi_x25, hf⟩ := hf
  generalize hσ24 : hset σ17 x19 (jA N_x25 (up_ f_x25 (v1 : Int32).toNatClampNeg (if ((1000000000000000000 : Int64) : Int64) < (x21 + x23) then (1000000000000000000 : Int64) else (x21 + x23)))) = σ24 at hf
  refine r_last (f := f_x25) (x := (if ((1000000000000000000 : Int64) : Int64) < (x21 + x23) then (1000000000000000000 : Int64) else (x21 + x23))) ha_x25 hi_x25 dX3_reckon_97 ?_
  refine Eq.mpr (congrArg (fun z => Wd _ _ _ _ _ _ _ _ _ _ _ z _ _ _) hσ24) ?_
  exact r_return rfl dX3_reckon_98 rfl ⟨rfl, hf⟩
def F_X3_reckon (l : Launch) (G : GG) (d : Nat) (v0 : Nat) (v1 : Int32) (v2 : Int32) (σ : Hp) (K : Hp → Prop) : Prop :=
  fN σ v0 3 3 fun x26 =>
  gZ σ x26 v2 fun x27 =>
  (x27 = true →
    F_X3_reckon_16 l G d v0 v1 v2 v0 v1 false σ K) ∧
  (x27 = false →
    F_X3_reckon_16 l G d v0 v1 v2 v0 v1 true σ K)
set_option maxRecDepth 100000 in
set_option maxHeartbeats 4000000 in
theorem b_X3_reckon_0 {l : Launch} {G : GG} {d : Nat} {v0 : Nat} {v1 : Int32} {v2 : Int32} {σ : Hp} {K : Hp → Prop} (hf : F_X3_reckon l G d v0 v1 v2 σ K) : Wd l G (d + 1) "CoinsLaid$Outlook" yX3_reckon cX3_reckon 3 none 0 [(0, aR (some v0)), (1, aI v1), (2, aI v2)] [] σ 0 0 (xM (QV K)) := by
  unfold F_X3_reckon at hf
  refine r_aload_n (j := 0) rfl rfl dX3_reckon_0 ?_
  refine r_iload_n (j := 1) rfl rfl dX3_reckon_1 ?_
  refine r_aload_n (j := 0) rfl rfl dX3_reckon_2 ?_
  obtain ⟨fs_x26, x26, ha_x26, hv_x26, hf⟩ := hf
  refine r_get (Cn := RX3) (Tt := TX3) (N := 11) (n := 3) rfl uw_X3 (Nat.le_of_ble_eq_true rfl) wd_1_49 ha_x26 hv_x26 dX3_reckon_3 ?_
  refine r_iload_n (j := 2) rfl rfl dX3_reckon_6 ?_
  obtain ⟨N_x27, f_x27, ha_x27, hi_x27, hf⟩ := hf
  refine r_zald ha_x27 hi_x27 dX3_reckon_7 ?_
  generalize f_x27 (v2 : Int32).toNatClampNeg = x27 at hf ⊢
  refine r_ifneZ (b := x27) (tgt := 15) (by decide) dX3_reckon_8 (fun hc => ?_) (fun hc => ?_)
  · replace hf := hf.1 hc
    refine r_iconst (v := 0) (by decide) dX3_reckon_15 ?_
    exact r_sub [0, 1, 2] rfl (b_X3_reckon_16 hf)
  · replace hf := hf.2 hc
    refine r_iconst (v := 1) (by decide) dX3_reckon_11 ?_
    refine r_goto (tgt := 16) (by decide) dX3_reckon_12 ?_
    exact r_sub [0, 1, 2] rfl (b_X3_reckon_16 hf)
theorem m_X3_reckon {l : Launch} {G : GG} {d : Nat} {v0 : Nat} {v1 : Int32} {v2 : Int32} {σ : Hp} {K : Hp → Prop} (hr : rv σ v0 3) (hf : F_X3_reckon l G d v0 v1 v2 σ K) : C_X3_reckon l G (d + 1) v0 v1 v2 σ K := ⟨hr, Sp.of (by decide) (Nat.le_of_ble_eq_true rfl) (b_X3_reckon_0 hf) rfl⟩
def F_X3_reckonWinner_78 (l : Launch) (G : GG) (d : Nat) (σ : Hp) (K : Hp → Prop) : Prop :=
  K σ
set_option maxRecDepth 100000 in
set_option maxHeartbeats 4000000 in
theorem b_X3_reckonWinner_78 {l : Launch} {G : GG} {d : Nat} {σ : Hp} {K : Hp → Prop} (hf : F_X3_reckonWinner_78 l G d  σ K) : Wd l G (d + 1) "CoinsLaid$Outlook" yX3_reckonWinner cX3_reckonWinner 4 none 78 [] [] σ 0 0 (xM (QV K)) := by
  unfold F_X3_reckonWinner_78 at hf
  exact r_return rfl dX3_reckonWinner_78 rfl ⟨rfl, hf⟩
def F_X3_reckonWinner_30 (l : Launch) (G : GG) (d : Nat) (v0 : Nat) (v1 : Int32) (v2 : Bool) (v3 : Int32) (σ : Hp) (K : Hp → Prop) : Prop :=
  (v2 = false →
    fN σ v0 3 3 fun x1 =>
    gZ σ x1 v1 fun x2 =>
    (x2 = true →
      F_X3_reckonWinner_78 l G d σ K) ∧
    (x2 = false →
      fN σ v0 3 4 fun x3 =>
      fN σ v0 3 4 fun x4 =>
      gI σ x4 v1 fun x5 =>
      sI σ x3 v1 (if (x5 : Int32) < v3 then v3 else x5) fun σ6 =>
      F_X3_reckonWinner_78 l G d σ6 K)) ∧
  (v2 = true →
    fN σ v0 3 4 fun x8 =>
    fN σ v0 3 4 fun x9 =>
    gI σ x9 v1 fun x10 =>
    sI σ x8 v1 (if (v3 : Int32) < x10 then v3 else x10) fun σ11 =>
    F_X3_reckonWinner_78 l G d σ11 K)
set_option maxRecDepth 100000 in
set_option maxHeartbeats 4000000 in
theorem b_X3_reckonWinner_30 {l : Launch} {G : GG} {d : Nat} {v0 : Nat} {v1 : Int32} {v2 : Bool} {v3 : Int32} {σ : Hp} {K : Hp → Prop} (hf : F_X3_reckonWinner_30 l G d v0 v1 v2 v3 σ K) : Wd l G (d + 1) "CoinsLaid$Outlook" yX3_reckonWinner cX3_reckonWinner 4 none 30 [(0, aR (some v0)), (1, aI v1), (2, aI (bi v2)), (3, aI v3)] [] σ 0 0 (xM (QV K)) := by
  unfold F_X3_reckonWinner_30 at hf
  refine r_iload_n (j := 2) rfl rfl dX3_reckonWinner_30 ?_
  refine r_ifeqZ (b := v2) (tgt := 53) (by decide) dX3_reckonWinner_31 (fun hc => ?_) (fun hc => ?_)
  · replace hf := hf.1 hc
    refine r_aload_n (j := 0) rfl rfl dX3_reckonWinner_53 ?_
    obtain ⟨fs_x1, x1, ha_x1, hv_x1, hf⟩ := hf
    refine r_get (Cn := RX3) (Tt := TX3) (N := 11) (n := 3) rfl uw_X3 (Nat.le_of_ble_eq_true rfl) wd_1_49 ha_x1 hv_x1 dX3_reckonWinner_54 ?_
    refine r_iload_n (j := 1) rfl rfl dX3_reckonWinner_57 ?_
    obtain ⟨N_x2, f_x2, ha_x2, hi_x2, hf⟩ := hf
    refine r_zald ha_x2 hi_x2 dX3_reckonWinner_58 ?_
    generalize f_x2 (v1 : Int32).toNatClampNeg = x2 at hf ⊢
    refine r_ifneZ (b := x2) (tgt := 78) (by decide) dX3_reckonWinner_59 (fun hc => ?_) (fun hc => ?_)
    · replace hf := hf.1 hc
      exact r_sub [] rfl (b_X3_reckonWinner_78 hf)
    · replace hf := hf.2 hc
      refine r_aload_n (j := 0) rfl rfl dX3_reckonWinner_62 ?_
      obtain ⟨fs_x3, x3, ha_x3, hv_x3, hf⟩ := hf
      refine r_get (Cn := RX3) (Tt := TX3) (N := 11) (n := 4) rfl uw_X3 (Nat.le_of_ble_eq_true rfl) wd_1_50 ha_x3 hv_x3 dX3_reckonWinner_63 ?_
      refine r_iload_n (j := 1) rfl rfl dX3_reckonWinner_66 ?_
      refine r_aload_n (j := 0) rfl rfl dX3_reckonWinner_67 ?_
      obtain ⟨fs_x4, x4, ha_x4, hv_x4, hf⟩ := hf
      refine r_get (Cn := RX3) (Tt := TX3) (N := 11) (n := 4) rfl uw_X3 (Nat.le_of_ble_eq_true rfl) wd_1_50 ha_x4 hv_x4 dX3_reckonWinner_68 ?_
      refine r_iload_n (j := 1) rfl rfl dX3_reckonWinner_71 ?_
      obtain ⟨N_x5, f_x5, ha_x5, hi_x5, hf⟩ := hf
      refine r_iald ha_x5 hi_x5 dX3_reckonWinner_72 ?_
      generalize f_x5 (v1 : Int32).toNatClampNeg = x5 at hf ⊢
      refine r_iload_n (j := 3) rfl rfl dX3_reckonWinner_73 ?_
      refine r_mmax (x := x5) (y := v3) wd_5_3 wd_3_101 wd_1_21 wd_3_102 (Nat.le_add_left 1 d) (cat_ok (Nat.le_of_ble_eq_true rfl)) dX3_reckonWinner_74 ?_
      obtain ⟨N_x7, f_x7, ha_x7, hi_x7, hf⟩ := hf
      generalize hσ6 : hset σ x3 (iA N_x7 (up_ f_x7 (v1 : Int32).toNatClampNeg (if (x5 : Int32) < v3 then v3 else x5))) = σ6 at hf
      refine r_iast (f := f_x7) (x := (if (x5 : Int32) < v3 then v3 else x5)) ha_x7 hi_x7 dX3_reckonWinner_77 ?_
      refine Eq.mpr (congrArg (fun z => Wd _ _ _ _ _ _ _ _ _ _ _ z _ _ _) hσ6) ?_
      exact r_sub [] rfl (b_X3_reckonWinner_78 hf)
  · replace hf := hf.2 hc
    refine r_aload_n (j := 0) rfl rfl dX3_reckonWinner_34 ?_
    obtain ⟨fs_x8, x8, ha_x8, hv_x8, hf⟩ := hf
    refine r_get (Cn := RX3) (Tt := TX3) (N := 11) (n := 4) rfl uw_X3 (Nat.le_of_ble_eq_true rfl) wd_1_50 ha_x8 hv_x8 dX3_reckonWinner_35 ?_
    refine r_iload_n (j := 1) rfl rfl dX3_reckonWinner_38 ?_
    refine r_aload_n (j := 0) rfl rfl dX3_reckonWinner_39 ?_
    obtain ⟨fs_x9, x9, ha_x9, hv_x9, hf⟩ := hf
    refine r_get (Cn := RX3) (Tt := TX3) (N := 11) (n := 4) rfl uw_X3 (Nat.le_of_ble_eq_true rfl) wd_1_50 ha_x9 hv_x9 dX3_reckonWinner_40 ?_
    refine r_iload_n (j := 1) rfl rfl dX3_reckonWinner_43 ?_
    obtain ⟨N_x10, f_x10, ha_x10, hi_x10, hf⟩ := hf
    refine r_iald ha_x10 hi_x10 dX3_reckonWinner_44 ?_
    generalize f_x10 (v1 : Int32).toNatClampNeg = x10 at hf ⊢
    refine r_iload_n (j := 3) rfl rfl dX3_reckonWinner_45 ?_
    refine r_mmin (x := x10) (y := v3) wd_5_2 wd_3_136 wd_1_21 wd_3_137 (Nat.le_add_left 1 d) (cat_ok (Nat.le_of_ble_eq_true rfl)) dX3_reckonWinner_46 ?_
    obtain ⟨N_x12, f_x12, ha_x12, hi_x12, hf⟩ := hf
    generalize hσ11 : hset σ x8 (iA N_x12 (up_ f_x12 (v1 : Int32).toNatClampNeg (if (v3 : Int32) < x10 then v3 else x10))) = σ11 at hf
    refine r_iast (f := f_x12) (x := (if (v3 : Int32) < x10 then v3 else x10)) ha_x12 hi_x12 dX3_reckonWinner_49 ?_
    refine Eq.mpr (congrArg (fun z => Wd _ _ _ _ _ _ _ _ _ _ _ z _ _ _) hσ11) ?_
    refine r_goto (tgt := 78) (by decide) dX3_reckonWinner_50 ?_
    exact r_sub [] rfl (b_X3_reckonWinner_78 hf)
def F_X3_reckonWinner (l : Launch) (G : GG) (d : Nat) (v0 : Nat) (v1 : Int32) (v2 : Bool) (v3 : Int32) (σ : Hp) (K : Hp → Prop) : Prop :=
  (v2 = false →
    F_X3_reckonWinner_30 l G d v0 v1 v2 v3 σ K) ∧
  (v2 = true →
    fN σ v0 3 3 fun x13 =>
    gZ σ x13 v1 fun x14 =>
    (x14 = true →
      F_X3_reckonWinner_30 l G d v0 v1 v2 v3 σ K) ∧
    (x14 = false →
      fN σ v0 3 3 fun x15 =>
      sZ σ x15 v1 true fun σ16 =>
      fN σ16 v0 3 4 fun x18 =>
      sI σ16 x18 v1 v3 fun σ19 =>
      F_X3_reckonWinner_78 l G d σ19 K))
set_option maxRecDepth 100000 in
set_option maxHeartbeats 4000000 in
theorem b_X3_reckonWinner_0 {l : Launch} {G : GG} {d : Nat} {v0 : Nat} {v1 : Int32} {v2 : Bool} {v3 : Int32} {σ : Hp} {K : Hp → Prop} (hf : F_X3_reckonWinner l G d v0 v1 v2 v3 σ K) : Wd l G (d + 1) "CoinsLaid$Outlook" yX3_reckonWinner cX3_reckonWinner 4 none 0 [(0, aR (some v0)), (1, aI v1), (2, aI (bi v2)), (3, aI v3)] [] σ 0 0 (xM (QV K)) := by
  unfold F_X3_reckonWinner at hf
  refine r_iload_n (j := 2) rfl rfl dX3_reckonWinner_0 ?_
  refine r_ifeqZ (b := v2) (tgt := 30) (by decide) dX3_reckonWinner_1 (fun hc => ?_) (fun hc => ?_)
  · replace hf := hf.1 hc
    exact r_sub [0, 1, 2, 3] rfl (b_X3_reckonWinner_30 hf)
  · replace hf := hf.2 hc
    refine r_aload_n (j := 0) rfl rfl dX3_reckonWinner_4 ?_
    obtain ⟨fs_x13, x13, ha_x13, hv_x13, hf⟩ := hf
    refine r_get (Cn := RX3) (Tt := TX3) (N := 11) (n := 3) rfl uw_X3 (Nat.le_of_ble_eq_true rfl) wd_1_49 ha_x13 hv_x13 dX3_reckonWinner_5 ?_
    refine r_iload_n (j := 1) rfl rfl dX3_reckonWinner_8 ?_
    obtain ⟨N_x14, f_x14, ha_x14, hi_x14, hf⟩ := hf
    refine r_zald ha_x14 hi_x14 dX3_reckonWinner_9 ?_
    generalize f_x14 (v1 : Int32).toNatClampNeg = x14 at hf ⊢
    refine r_ifneZ (b := x14) (tgt := 30) (by decide) dX3_reckonWinner_10 (fun hc => ?_) (fun hc => ?_)
    · replace hf := hf.1 hc
      exact r_sub [0, 1, 2, 3] rfl (b_X3_reckonWinner_30 hf)
    · replace hf := hf.2 hc
      refine r_aload_n (j := 0) rfl rfl dX3_reckonWinner_13 ?_
      obtain ⟨fs_x15, x15, ha_x15, hv_x15, hf⟩ := hf
      refine r_get (Cn := RX3) (Tt := TX3) (N := 11) (n := 3) rfl uw_X3 (Nat.le_of_ble_eq_true rfl) wd_1_49 ha_x15 hv_x15 dX3_reckonWinner_14 ?_
      refine r_iload_n (j := 1) rfl rfl dX3_reckonWinner_17 ?_
      refine r_iconst (v := 1) (by decide) dX3_reckonWinner_18 ?_
      obtain ⟨N_x17, f_x17, ha_x17, hi_x17, hf⟩ := hf
      generalize hσ16 : hset σ x15 (zA N_x17 (up_ f_x17 (v1 : Int32).toNatClampNeg true)) = σ16 at hf
      refine r_zast (f := f_x17) (x := true) ha_x17 hi_x17 dX3_reckonWinner_19 ?_
      refine Eq.mpr (congrArg (fun z => Wd _ _ _ _ _ _ _ _ _ _ _ z _ _ _) hσ16) ?_
      refine r_aload_n (j := 0) rfl rfl dX3_reckonWinner_20 ?_
      obtain ⟨fs_x18, x18, ha_x18, hv_x18, hf⟩ := hf
      refine r_get (Cn := RX3) (Tt := TX3) (N := 11) (n := 4) rfl uw_X3 (Nat.le_of_ble_eq_true rfl) wd_1_50 ha_x18 hv_x18 dX3_reckonWinner_21 ?_
      refine r_iload_n (j := 1) rfl rfl dX3_reckonWinner_24 ?_
      refine r_iload_n (j := 3) rfl rfl dX3_reckonWinner_25 ?_
      obtain ⟨N_x20, f_x20, ha_x20, hi_x20, hf⟩ := hf
      generalize hσ19 : hset σ16 x18 (iA N_x20 (up_ f_x20 (v1 : Int32).toNatClampNeg v3)) = σ19 at hf
      refine r_iast (f := f_x20) (x := v3) ha_x20 hi_x20 dX3_reckonWinner_26 ?_
      refine Eq.mpr (congrArg (fun z => Wd _ _ _ _ _ _ _ _ _ _ _ z _ _ _) hσ19) ?_
      refine r_goto (tgt := 78) (by decide) dX3_reckonWinner_27 ?_
      exact r_sub [] rfl (b_X3_reckonWinner_78 hf)
theorem m_X3_reckonWinner {l : Launch} {G : GG} {d : Nat} {v0 : Nat} {v1 : Int32} {v2 : Bool} {v3 : Int32} {σ : Hp} {K : Hp → Prop} (hr : rv σ v0 3) (hf : F_X3_reckonWinner l G d v0 v1 v2 v3 σ K) : C_X3_reckonWinner l G (d + 1) v0 v1 v2 v3 σ K := ⟨hr, Sp.of (by decide) (Nat.le_of_ble_eq_true rfl) (b_X3_reckonWinner_0 hf) rfl⟩
def F_X3_close_50 (l : Launch) (G : GG) (d : Nat) (v0 : Nat) (v1 : Int32) (σ : Hp) (K : Hp → Prop) : Prop :=
  fN σ v0 3 2 fun x1 =>
  fI σ v0 3 1 fun x2 =>
  sI σ x1 v1 x2 fun σ3 =>
  K σ3
set_option maxRecDepth 100000 in
set_option maxHeartbeats 4000000 in
theorem b_X3_close_50 {l : Launch} {G : GG} {d : Nat} {v0 : Nat} {v1 : Int32} {σ : Hp} {K : Hp → Prop} (hf : F_X3_close_50 l G d v0 v1 σ K) : Wd l G (d + 1) "CoinsLaid$Outlook" yX3_close cX3_close 5 none 50 [(0, aR (some v0)), (1, aI v1)] [] σ 0 0 (xM (QV K)) := by
  unfold F_X3_close_50 at hf
  refine r_aload_n (j := 0) rfl rfl dX3_close_50 ?_
  obtain ⟨fs_x1, x1, ha_x1, hv_x1, hf⟩ := hf
  refine r_get (Cn := RX3) (Tt := TX3) (N := 11) (n := 2) rfl uw_X3 (Nat.le_of_ble_eq_true rfl) wd_1_48 ha_x1 hv_x1 dX3_close_51 ?_
  refine r_iload_n (j := 1) rfl rfl dX3_close_54 ?_
  refine r_aload_n (j := 0) rfl rfl dX3_close_55 ?_
  obtain ⟨fs_x2, x2, ha_x2, hv_x2, hf⟩ := hf
  refine r_get (Cn := RX3) (Tt := TX3) (N := 11) (n := 1) rfl uw_X3 (Nat.le_of_ble_eq_true rfl) wd_1_47 ha_x2 hv_x2 dX3_close_56 ?_
  obtain ⟨N_x4, f_x4, ha_x4, hi_x4, hf⟩ := hf
  generalize hσ3 : hset σ x1 (iA N_x4 (up_ f_x4 (v1 : Int32).toNatClampNeg x2)) = σ3 at hf
  refine r_iast (f := f_x4) (x := x2) ha_x4 hi_x4 dX3_close_59 ?_
  refine Eq.mpr (congrArg (fun z => Wd _ _ _ _ _ _ _ _ _ _ _ z _ _ _) hσ3) ?_
  exact r_return rfl dX3_close_60 rfl ⟨rfl, hf⟩
def F_X3_close_18 (l : Launch) (G : GG) (d : Nat) (v0 : Nat) (v1 : Int32) (v2 : Int32) (s0 : Nat) (s1 : Int32) (s2 : Int32) (σ : Hp) (K : Hp → Prop) : Prop :=
  sI σ s0 s1 s2 fun σ5 =>
  (¬ (v2 : Int32) = 0 →
    F_X3_close_50 l G d v0 v1 σ5 K) ∧
  ((v2 : Int32) = 0 →
    fN σ5 v0 3 3 fun x7 =>
    fR σ5 v0 3 0 fun x8 =>
    ∃ b9, x8 = some b9 ∧
    fZ σ5 b9 8 1 fun x10 =>
    sZ σ5 x7 v1 x10 fun σ11 =>
    fN σ11 v0 3 5 fun x13 =>
    sI σ11 x13 v1 0 fun σ14 =>
    fN σ14 v0 3 8 fun x16 =>
    sJ σ14 x16 v1 (1 : Int64) fun σ17 =>
    F_X3_close_50 l G d v0 v1 σ17 K)
set_option maxRecDepth 100000 in
set_option maxHeartbeats 4000000 in
theorem b_X3_close_18 {l : Launch} {G : GG} {d : Nat} {v0 : Nat} {v1 : Int32} {v2 : Int32} {s0 : Nat} {s1 : Int32} {s2 : Int32} {σ : Hp} {K : Hp → Prop} (hf : F_X3_close_18 l G d v0 v1 v2 s0 s1 s2 σ K) : Wd l G (d + 1) "CoinsLaid$Outlook" yX3_close cX3_close 5 none 18 [(0, aR (some v0)), (1, aI v1), (2, aI v2)] [aI s2, aI s1, aR (some s0)] σ 0 0 (xM (QV K)) := by
  unfold F_X3_close_18 at hf
  obtain ⟨N_x6, f_x6, ha_x6, hi_x6, hf⟩ := hf
  generalize hσ5 : hset σ s0 (iA N_x6 (up_ f_x6 (s1 : Int32).toNatClampNeg s2)) = σ5 at hf
  refine r_iast (f := f_x6) (x := s2) ha_x6 hi_x6 dX3_close_18 ?_
  refine Eq.mpr (congrArg (fun z => Wd _ _ _ _ _ _ _ _ _ _ _ z _ _ _) hσ5) ?_
  refine r_iload_n (j := 2) rfl rfl dX3_close_19 ?_
  refine r_ifne (x := v2) (tgt := 50) (by decide) dX3_close_20 (fun hc => ?_) (fun hc => ?_)
  · replace hf := hf.1 hc
    exact r_sub [0, 1] rfl (b_X3_close_50 hf)
  · replace hf := hf.2 hc
    refine r_aload_n (j := 0) rfl rfl dX3_close_23 ?_
    obtain ⟨fs_x7, x7, ha_x7, hv_x7, hf⟩ := hf
    refine r_get (Cn := RX3) (Tt := TX3) (N := 11) (n := 3) rfl uw_X3 (Nat.le_of_ble_eq_true rfl) wd_1_49 ha_x7 hv_x7 dX3_close_24 ?_
    refine r_iload_n (j := 1) rfl rfl dX3_close_27 ?_
    refine r_aload_n (j := 0) rfl rfl dX3_close_28 ?_
    obtain ⟨fs_x8, x8, ha_x8, hv_x8, hf⟩ := hf
    refine r_get (Cn := RX3) (Tt := TX3) (N := 11) (n := 0) rfl uw_X3 (Nat.le_of_ble_eq_true rfl) wd_1_45 ha_x8 hv_x8 dX3_close_29 ?_
    obtain ⟨b9, hb_b9, hf⟩ := hf
    subst hb_b9
    obtain ⟨fs_x10, x10, ha_x10, hv_x10, hf⟩ := hf
    refine r_get (Cn := RX8) (Tt := TX8) (N := 9) (n := 1) rfl uw_X8 (Nat.le_of_ble_eq_true rfl) wd_2_56 ha_x10 hv_x10 dX3_close_32 ?_
    obtain ⟨N_x12, f_x12, ha_x12, hi_x12, hf⟩ := hf
    generalize hσ11 : hset σ5 x7 (zA N_x12 (up_ f_x12 (v1 : Int32).toNatClampNeg x10)) = σ11 at hf
    refine r_zast (f := f_x12) (x := x10) ha_x12 hi_x12 dX3_close_35 ?_
    refine Eq.mpr (congrArg (fun z => Wd _ _ _ _ _ _ _ _ _ _ _ z _ _ _) hσ11) ?_
    refine r_aload_n (j := 0) rfl rfl dX3_close_36 ?_
    obtain ⟨fs_x13, x13, ha_x13, hv_x13, hf⟩ := hf
    refine r_get (Cn := RX3) (Tt := TX3) (N := 11) (n := 5) rfl uw_X3 (Nat.le_of_ble_eq_true rfl) wd_1_51 ha_x13 hv_x13 dX3_close_37 ?_
    refine r_iload_n (j := 1) rfl rfl dX3_close_40 ?_
    refine r_iconst (v := 0) (by decide) dX3_close_41 ?_
    obtain ⟨N_x15, f_x15, ha_x15, hi_x15, hf⟩ := hf
    generalize hσ14 : hset σ11 x13 (iA N_x15 (up_ f_x15 (v1 : Int32).toNatClampNeg 0)) = σ14 at hf
    refine r_iast (f := f_x15) (x := 0) ha_x15 hi_x15 dX3_close_42 ?_
    refine Eq.mpr (congrArg (fun z => Wd _ _ _ _ _ _ _ _ _ _ _ z _ _ _) hσ14) ?_
    refine r_aload_n (j := 0) rfl rfl dX3_close_43 ?_
    obtain ⟨fs_x16, x16, ha_x16, hv_x16, hf⟩ := hf
    refine r_get (Cn := RX3) (Tt := TX3) (N := 11) (n := 8) rfl uw_X3 (Nat.le_of_ble_eq_true rfl) wd_1_54 ha_x16 hv_x16 dX3_close_44 ?_
    refine r_iload_n (j := 1) rfl rfl dX3_close_47 ?_
    refine r_lconst (v := 1) (by decide) dX3_close_48 ?_
    obtain ⟨N_x18, f_x18, ha_x18, hi_x18, hf⟩ := hf
    generalize hσ17 : hset σ14 x16 (jA N_x18 (up_ f_x18 (v1 : Int32).toNatClampNeg (1 : Int64))) = σ17 at hf
    refine r_last (f := f_x18) (x := (1 : Int64)) ha_x18 hi_x18 dX3_close_49 ?_
    refine Eq.mpr (congrArg (fun z => Wd _ _ _ _ _ _ _ _ _ _ _ z _ _ _) hσ17) ?_
    exact r_sub [0, 1] rfl (b_X3_close_50 hf)
def F_X3_close (l : Launch) (G : GG) (d : Nat) (v0 : Nat) (v1 : Int32) (v2 : Int32) (v3 : Int64) (σ : Hp) (K : Hp → Prop) : Prop :=
  fN σ v0 3 7 fun x19 =>
  ((v2 : Int32) ≤ 0 →
    F_X3_close_18 l G d v0 v1 v2 x19 v1 0 σ K) ∧
  (¬ (v2 : Int32) ≤ 0 →
    ¬ (((v2 : Int32).toInt64) : Int64) = 0 ∧
    F_X3_close_18 l G d v0 v1 v2 x19 v1 (((v3 / ((v2 : Int32).toInt64)) : Int64).toInt32) σ K)
set_option maxRecDepth 100000 in
set_option maxHeartbeats 4000000 in
theorem b_X3_close_0 {l : Launch} {G : GG} {d : Nat} {v0 : Nat} {v1 : Int32} {v2 : Int32} {v3 : Int64} {σ : Hp} {K : Hp → Prop} (hf : F_X3_close l G d v0 v1 v2 v3 σ K) : Wd l G (d + 1) "CoinsLaid$Outlook" yX3_close cX3_close 5 none 0 [(0, aR (some v0)), (1, aI v1), (2, aI v2), (3, aJ v3)] [] σ 0 0 (xM (QV K)) := by
  unfold F_X3_close at hf
  refine r_aload_n (j := 0) rfl rfl dX3_close_0 ?_
  obtain ⟨fs_x19, x19, ha_x19, hv_x19, hf⟩ := hf
  refine r_get (Cn := RX3) (Tt := TX3) (N := 11) (n := 7) rfl uw_X3 (Nat.le_of_ble_eq_true rfl) wd_1_53 ha_x19 hv_x19 dX3_close_1 ?_
  refine r_iload_n (j := 1) rfl rfl dX3_close_4 ?_
  refine r_iload_n (j := 2) rfl rfl dX3_close_5 ?_
  refine r_ifle (x := v2) (tgt := 17) (by decide) dX3_close_6 (fun hc => ?_) (fun hc => ?_)
  · replace hf := hf.1 hc
    refine r_iconst (v := 0) (by decide) dX3_close_17 ?_
    exact r_sub [0, 1, 2] rfl (b_X3_close_18 hf)
  · replace hf := hf.2 hc
    refine r_lload_n (j := 3) rfl rfl dX3_close_9 ?_
    refine r_iload_n (j := 2) rfl rfl dX3_close_10 ?_
    refine r_i2l (x := v2) dX3_close_11 ?_
    obtain ⟨hne, hf⟩ := hf
    refine r_ldiv hne dX3_close_12 ?_
    refine r_l2i (x := (v3 / ((v2 : Int32).toInt64))) dX3_close_13 ?_
    refine r_goto (tgt := 18) (by decide) dX3_close_14 ?_
    exact r_sub [0, 1, 2] rfl (b_X3_close_18 hf)
theorem m_X3_close {l : Launch} {G : GG} {d : Nat} {v0 : Nat} {v1 : Int32} {v2 : Int32} {v3 : Int64} {σ : Hp} {K : Hp → Prop} (hr : rv σ v0 3) (hf : F_X3_close l G d v0 v1 v2 v3 σ K) : C_X3_close l G (d + 1) v0 v1 v2 v3 σ K := ⟨hr, Sp.of (by decide) (Nat.le_of_ble_eq_true rfl) (b_X3_close_0 hf) rfl⟩
def F_X3_grundyOfAll_13 (l : Launch) (G : GG) (d : Nat) (X13 : Nat → Int32 → Int32 → Int32 → Hp → Prop) (v0 : Nat) (v1 : Int32) (v2 : Int32) (v3 : Int32) (σ : Hp) (K : Int32 → Hp → Prop) : Prop :=
  fR σ v0 3 0 fun x1 =>
  ∃ b2, x1 = some b2 ∧
  fN σ b2 8 3 fun x3 =>
  C_Jx4a65c_size_8abf5 l G d x3 σ fun r5 σ4 =>
  ((r5 : Int32) ≤ (v3 : Int32) →
    K v2 σ4) ∧
  (¬ (r5 : Int32) ≤ (v3 : Int32) →
    fR σ4 v0 3 0 fun x6 =>
    ∃ b7, x6 = some b7 ∧
    fN σ4 b7 8 3 fun x8 =>
    C_Jx4a65c_get_915e3 l G d x8 v3 σ4 fun r10 σ9 =>
    rv σ9 r10 0 ∧
    C_X3_grundyOf l G d v0 r10 v1 σ9 fun r13 σ12 =>
    X13 v0 v1 (v2 ^^^ r13) (v3 + 1) σ12)
set_option maxRecDepth 100000 in
set_option maxHeartbeats 4000000 in
theorem b_X3_grundyOfAll_13 {l : Launch} {G : GG} {d : Nat} {X13 : Nat → Int32 → Int32 → Int32 → Hp → Prop} {v0 : Nat} {v1 : Int32} {v2 : Int32} {v3 : Int32} {σ : Hp} {K : Int32 → Hp → Prop} (hX13 : ∀ v0 v1 v2 v3 σ, X13 v0 v1 v2 v3 σ → Wd l G (d + 1) "CoinsLaid$Outlook" yX3_grundyOfAll cX3_grundyOfAll 4 (some FieldType.int) 13 [(0, aR (some v0)), (1, aI v1), (2, aI v2), (3, aI v3)] [] σ 0 0 (xM (QI K))) (hf : F_X3_grundyOfAll_13 l G d X13 v0 v1 v2 v3 σ K) : Wd l G (d + 1) "CoinsLaid$Outlook" yX3_grundyOfAll cX3_grundyOfAll 4 (some FieldType.int) 13 [(0, aR (some v0)), (1, aI v1), (2, aI v2), (3, aI v3)] [] σ 0 0 (xM (QI K)) := by
  unfold F_X3_grundyOfAll_13 at hf
  refine r_iload_n (j := 3) rfl rfl dX3_grundyOfAll_13 ?_
  refine r_aload_n (j := 0) rfl rfl dX3_grundyOfAll_14 ?_
  obtain ⟨fs_x1, x1, ha_x1, hv_x1, hf⟩ := hf
  refine r_get (Cn := RX3) (Tt := TX3) (N := 11) (n := 0) rfl uw_X3 (Nat.le_of_ble_eq_true rfl) wd_1_45 ha_x1 hv_x1 dX3_grundyOfAll_15 ?_
  obtain ⟨b2, hb_b2, hf⟩ := hf
  subst hb_b2
  obtain ⟨fs_x3, x3, ha_x3, hv_x3, hf⟩ := hf
  refine r_get (Cn := RX8) (Tt := TX8) (N := 9) (n := 3) rfl uw_X8 (Nat.le_of_ble_eq_true rfl) wd_2_64 ha_x3 hv_x3 dX3_grundyOfAll_18 ?_
  try unfold C_Jx4a65c_size_8abf5 at hf
  obtain ⟨⟨fs_r5, ha_r5⟩, hf⟩ := hf
  refine r_invVI (t := 13) (As := []) (dz := d) (mz := 0) (sz := 0) rfl wd_5_62 wd_2_223 wd_2_224 cf_Jx4a65c_size_8abf5 (Nat.le_refl _) (Nat.zero_le _) (Nat.zero_le _) (cat_ok (Nat.le_of_ble_eq_true rfl)) rfl rfl ha_r5 dX3_grundyOfAll_21 hf (fun r5 σ4 hk => ?_)
  replace hf := hk
  clear hk
  refine r_icmpge (x := v3) (y := r5) (tgt := 55) (by decide) dX3_grundyOfAll_24 (fun hc => ?_) (fun hc => ?_)
  · replace hf := hf.1 hc
    refine r_iload_n (j := 2) rfl rfl dX3_grundyOfAll_55 ?_
    exact r_ireturn rfl dX3_grundyOfAll_56 rfl ⟨_, rfl, hf⟩
  · replace hf := hf.2 hc
    refine r_iload_n (j := 2) rfl rfl dX3_grundyOfAll_27 ?_
    refine r_aload_n (j := 0) rfl rfl dX3_grundyOfAll_28 ?_
    refine r_aload_n (j := 0) rfl rfl dX3_grundyOfAll_29 ?_
    obtain ⟨fs_x6, x6, ha_x6, hv_x6, hf⟩ := hf
    refine r_get (Cn := RX3) (Tt := TX3) (N := 11) (n := 0) rfl uw_X3 (Nat.le_of_ble_eq_true rfl) wd_1_45 ha_x6 hv_x6 dX3_grundyOfAll_30 ?_
    obtain ⟨b7, hb_b7, hf⟩ := hf
    subst hb_b7
    obtain ⟨fs_x8, x8, ha_x8, hv_x8, hf⟩ := hf
    refine r_get (Cn := RX8) (Tt := TX8) (N := 9) (n := 3) rfl uw_X8 (Nat.le_of_ble_eq_true rfl) wd_2_64 ha_x8 hv_x8 dX3_grundyOfAll_33 ?_
    refine r_iload_n (j := 3) rfl rfl dX3_grundyOfAll_36 ?_
    try unfold C_Jx4a65c_get_915e3 at hf
    obtain ⟨⟨fs_r10, ha_r10⟩, hf⟩ := hf
    refine r_invVN (t := 13) (As := [aI v3]) (dz := d) (mz := 0) (sz := 0) rfl wd_5_63 wd_3_15 wd_3_16 cf_Jx4a65c_get_915e3 (Nat.le_refl _) (Nat.zero_le _) (Nat.zero_le _) (cat_ok (Nat.le_of_ble_eq_true rfl)) rfl rfl ha_r10 dX3_grundyOfAll_37 hf (fun r10 σ9 hk => ?_)
    replace hf := hk
    clear hk
    obtain ⟨⟨fs_x11, ha_x11⟩, hf⟩ := hf
    refine r_cast (t := 0) rfl wd_5_64 ha_x11 dX3_grundyOfAll_40 ?_
    refine r_iload_n (j := 1) rfl rfl dX3_grundyOfAll_43 ?_
    try unfold C_X3_grundyOf at hf
    obtain ⟨⟨fs_r13, ha_r13⟩, hf⟩ := hf
    refine r_invVI (t := 3) (As := [aR (some r10), aI v1]) (dz := d) (mz := 0) (sz := 0) rfl wd_5_65 wd_5_66 wd_5_67 cf_X3_grundyOf (Nat.le_refl _) (Nat.zero_le _) (Nat.zero_le _) (cat_ok (Nat.le_of_ble_eq_true rfl)) rfl rfl ha_r13 dX3_grundyOfAll_44 hf (fun r13 σ12 hk => ?_)
    replace hf := hk
    clear hk
    refine r_ixor (x := v2) (y := r13) dX3_grundyOfAll_47 ?_
    refine r_istore_n (L' := [(2, aI (v2 ^^^ r13)), (0, aR (some v0)), (1, aI v1), (3, aI v3)]) rfl rfl (Nat.le_of_ble_eq_true rfl) dX3_grundyOfAll_48 ?_
    refine r_iinc (j := 3) (w := (v3 + 1)) (L' := [(3, aI (v3 + 1)), (2, aI (v2 ^^^ r13)), (0, aR (some v0)), (1, aI v1)]) rfl (by rfl) rfl (Nat.le_of_ble_eq_true rfl) dX3_grundyOfAll_49 ?_
    refine r_goto (tgt := 13) (by decide) dX3_grundyOfAll_52 ?_
    exact r_sub [2, 3, 1, 0] rfl (hX13 _ _ _ _ _ hf)
def Z_X3_grundyOfAll_13 (l : Launch) (G : GG) (d : Nat) (K : Int32 → Hp → Prop) : Nat → Nat → Int32 → Int32 → Int32 → Hp → Prop
  | 0 => fun _ _ _ _ _ => False
  | n + 1 => fun v0 v1 v2 v3 σ => F_X3_grundyOfAll_13 l G d (Z_X3_grundyOfAll_13 l G d K n) v0 v1 v2 v3 σ K
theorem z_X3_grundyOfAll_13 {l : Launch} {G : GG} {d : Nat} {K : Int32 → Hp → Prop} : ∀ (n : Nat) v0 v1 v2 v3 σ, Z_X3_grundyOfAll_13 l G d K n v0 v1 v2 v3 σ → Wd l G (d + 1) "CoinsLaid$Outlook" yX3_grundyOfAll cX3_grundyOfAll 4 (some FieldType.int) 13 [(0, aR (some v0)), (1, aI v1), (2, aI v2), (3, aI v3)] [] σ 0 0 (xM (QI K)) := by
  intro n
  induction n with
  | zero => intro v0 v1 v2 v3 σ hf; exact hf.elim
  | succ n ih => intro v0 v1 v2 v3 σ hf; exact b_X3_grundyOfAll_13 ih hf
def F_X3_grundyOfAll (l : Launch) (G : GG) (d : Nat) (v0 : Nat) (v1 : Int32) (σ : Hp) (K : Int32 → Hp → Prop) : Prop :=
  fR σ v0 3 0 fun x14 =>
  (∀ b15, x14 = some b15 →
    ∃ n, Z_X3_grundyOfAll_13 l G d K n v0 v1 0 0 σ) ∧
  (x14 = none →
    K 0 σ)
set_option maxRecDepth 100000 in
set_option maxHeartbeats 4000000 in
theorem b_X3_grundyOfAll_0 {l : Launch} {G : GG} {d : Nat} {v0 : Nat} {v1 : Int32} {σ : Hp} {K : Int32 → Hp → Prop} (hf : F_X3_grundyOfAll l G d v0 v1 σ K) : Wd l G (d + 1) "CoinsLaid$Outlook" yX3_grundyOfAll cX3_grundyOfAll 4 (some FieldType.int) 0 [(0, aR (some v0)), (1, aI v1)] [] σ 0 0 (xM (QI K)) := by
  unfold F_X3_grundyOfAll at hf
  refine r_aload_n (j := 0) rfl rfl dX3_grundyOfAll_0 ?_
  obtain ⟨fs_x14, x14, ha_x14, hv_x14, hf⟩ := hf
  refine r_get (Cn := RX3) (Tt := TX3) (N := 11) (n := 0) rfl uw_X3 (Nat.le_of_ble_eq_true rfl) wd_1_45 ha_x14 hv_x14 dX3_grundyOfAll_1 ?_
  refine r_ifnonnull (o := x14) (tgt := 9) (by decide) dX3_grundyOfAll_4 (fun b15 hc => ?_) (fun hc => ?_)
  · replace hf := hf.1 b15 hc
    subst hc
    refine r_iconst (v := 0) (by decide) dX3_grundyOfAll_9 ?_
    refine r_istore_n (L' := [(2, aI 0), (0, aR (some v0)), (1, aI v1)]) rfl rfl (Nat.le_of_ble_eq_true rfl) dX3_grundyOfAll_10 ?_
    refine r_iconst (v := 0) (by decide) dX3_grundyOfAll_11 ?_
    refine r_istore_n (L' := [(3, aI 0), (2, aI 0), (0, aR (some v0)), (1, aI v1)]) rfl rfl (Nat.le_of_ble_eq_true rfl) dX3_grundyOfAll_12 ?_
    obtain ⟨n, hf⟩ := hf
    exact r_sub [2, 3, 1, 0] rfl (z_X3_grundyOfAll_13 n _ _ _ _ _ hf)
  · replace hf := hf.2 hc
    subst hc
    refine r_iconst (v := 0) (by decide) dX3_grundyOfAll_7 ?_
    exact r_ireturn rfl dX3_grundyOfAll_8 rfl ⟨_, rfl, hf⟩
theorem m_X3_grundyOfAll {l : Launch} {G : GG} {d : Nat} {v0 : Nat} {v1 : Int32} {σ : Hp} {K : Int32 → Hp → Prop} (hr : rv σ v0 3) (hf : F_X3_grundyOfAll l G d v0 v1 σ K) : C_X3_grundyOfAll l G (d + 1) v0 v1 σ K := ⟨hr, Sp.of (by decide) (Nat.le_of_ble_eq_true rfl) (b_X3_grundyOfAll_0 hf) rfl⟩
def F_X3_grundyOf (l : Launch) (G : GG) (d : Nat) (v0 : Nat) (v1 : Nat) (v2 : Int32) (σ : Hp) (K : Int32 → Hp → Prop) : Prop :=
  fR σ v0 3 0 fun x1 =>
  (∀ b2, x1 = some b2 →
    fR σ v0 3 0 fun x3 =>
    ∃ b4, x3 = some b4 ∧
    fI σ b4 8 5 fun x5 =>
    C_X0_allSquares l G d v1 σ fun r7 σ6 =>
    C_X3_settleGrundy l G d v0 (v2 ||| (((1 <<< (x5 &&& 31)) - 1) &&& (r7 ^^^ (-1)))) 0 σ6 fun σ8 =>
    C_X3_grundyAt l G d v0 (v2 ||| (((1 <<< (x5 &&& 31)) - 1) &&& (r7 ^^^ (-1)))) σ8 fun r11 σ10 =>
    K r11 σ10) ∧
  (x1 = none →
    K 0 σ)
set_option maxRecDepth 100000 in
set_option maxHeartbeats 4000000 in
theorem b_X3_grundyOf_0 {l : Launch} {G : GG} {d : Nat} {v0 : Nat} {v1 : Nat} {v2 : Int32} {σ : Hp} {K : Int32 → Hp → Prop} (hf : F_X3_grundyOf l G d v0 v1 v2 σ K) : Wd l G (d + 1) "CoinsLaid$Outlook" yX3_grundyOf cX3_grundyOf 4 (some FieldType.int) 0 [(0, aR (some v0)), (1, aR (some v1)), (2, aI v2)] [] σ 0 0 (xM (QI K)) := by
  unfold F_X3_grundyOf at hf
  refine r_aload_n (j := 0) rfl rfl dX3_grundyOf_0 ?_
  obtain ⟨fs_x1, x1, ha_x1, hv_x1, hf⟩ := hf
  refine r_get (Cn := RX3) (Tt := TX3) (N := 11) (n := 0) rfl uw_X3 (Nat.le_of_ble_eq_true rfl) wd_1_45 ha_x1 hv_x1 dX3_grundyOf_1 ?_
  refine r_ifnonnull (o := x1) (tgt := 9) (by decide) dX3_grundyOf_4 (fun b2 hc => ?_) (fun hc => ?_)
  · replace hf := hf.1 b2 hc
    subst hc
    refine r_iconst (v := 1) (by decide) dX3_grundyOf_9 ?_
    refine r_aload_n (j := 0) rfl rfl dX3_grundyOf_10 ?_
    obtain ⟨fs_x3, x3, ha_x3, hv_x3, hf⟩ := hf
    refine r_get (Cn := RX3) (Tt := TX3) (N := 11) (n := 0) rfl uw_X3 (Nat.le_of_ble_eq_true rfl) wd_1_45 ha_x3 hv_x3 dX3_grundyOf_11 ?_
    obtain ⟨b4, hb_b4, hf⟩ := hf
    subst hb_b4
    obtain ⟨fs_x5, x5, ha_x5, hv_x5, hf⟩ := hf
    refine r_get (Cn := RX8) (Tt := TX8) (N := 9) (n := 5) rfl uw_X8 (Nat.le_of_ble_eq_true rfl) wd_2_69 ha_x5 hv_x5 dX3_grundyOf_14 ?_
    refine r_ishl (x := 1) (y := x5) dX3_grundyOf_17 ?_
    refine r_iconst (v := 1) (by decide) dX3_grundyOf_18 ?_
    refine r_isub (x := (1 <<< (x5 &&& 31))) (y := 1) dX3_grundyOf_19 ?_
    refine r_aload_n (j := 1) rfl rfl dX3_grundyOf_20 ?_
    try unfold C_X0_allSquares at hf
    obtain ⟨⟨fs_r7, ha_r7⟩, hf⟩ := hf
    refine r_invVI (t := 0) (As := []) (dz := d) (mz := 0) (sz := 0) rfl wd_5_69 wd_5_70 wd_5_71 cf_X0_allSquares (Nat.le_refl _) (Nat.zero_le _) (Nat.zero_le _) (cat_ok (Nat.le_of_ble_eq_true rfl)) rfl rfl ha_r7 dX3_grundyOf_21 hf (fun r7 σ6 hk => ?_)
    replace hf := hk
    clear hk
    refine r_iconst (v := (-1)) (by decide) dX3_grundyOf_24 ?_
    refine r_ixor (x := r7) (y := (-1)) dX3_grundyOf_25 ?_
    refine r_iand (x := ((1 <<< (x5 &&& 31)) - 1)) (y := (r7 ^^^ (-1))) dX3_grundyOf_26 ?_
    refine r_istore_n (L' := [(3, aI (((1 <<< (x5 &&& 31)) - 1) &&& (r7 ^^^ (-1)))), (0, aR (some v0)), (1, aR (some v1)), (2, aI v2)]) rfl rfl (Nat.le_of_ble_eq_true rfl) dX3_grundyOf_27 ?_
    refine r_aload_n (j := 1) rfl rfl dX3_grundyOf_28 ?_
    refine r_iload_n (j := 3) rfl rfl dX3_grundyOf_29 ?_
    refine r_iload_n (j := 0) rfl rfl dX3_grundyOf_30 ?_
    refine r_ior (x := v2) (y := (((1 <<< (x5 &&& 31)) - 1) &&& (r7 ^^^ (-1)))) dX3_grundyOf_31 ?_
    refine r_iconst (v := 0) (by decide) dX3_grundyOf_32 ?_
    try unfold C_X3_settleGrundy at hf
    refine r_invSU (As := [aR (some v0), aI (v2 ||| (((1 <<< (x5 &&& 31)) - 1) &&& (r7 ^^^ (-1)))), aI 0]) (dz := d) (mz := 0) (sz := 0) rfl wd_5_73 wd_5_74 cf_X3_settleGrundy (Nat.le_refl _) (Nat.zero_le _) (Nat.zero_le _) (cat_ok (Nat.le_of_ble_eq_true rfl)) dX3_grundyOf_33 hf (fun σ8 hk => ?_)
    replace hf := hk
    clear hk
    refine r_aload_n (j := 1) rfl rfl dX3_grundyOf_36 ?_
    refine r_iload_n (j := 3) rfl rfl dX3_grundyOf_37 ?_
    refine r_iload_n (j := 0) rfl rfl dX3_grundyOf_38 ?_
    refine r_ior (x := v2) (y := (((1 <<< (x5 &&& 31)) - 1) &&& (r7 ^^^ (-1)))) dX3_grundyOf_39 ?_
    try unfold C_X3_grundyAt at hf
    obtain ⟨⟨fs_r11, ha_r11⟩, hf⟩ := hf
    refine r_invVI (t := 3) (As := [aI (v2 ||| (((1 <<< (x5 &&& 31)) - 1) &&& (r7 ^^^ (-1))))]) (dz := d) (mz := 0) (sz := 0) rfl wd_5_77 wd_5_79 wd_p_39 cf_X3_grundyAt (Nat.le_refl _) (Nat.zero_le _) (Nat.zero_le _) (cat_ok (Nat.le_of_ble_eq_true rfl)) rfl rfl ha_r11 dX3_grundyOf_40 hf (fun r11 σ10 hk => ?_)
    replace hf := hk
    clear hk
    exact r_ireturn rfl dX3_grundyOf_43 rfl ⟨_, rfl, hf⟩
  · replace hf := hf.2 hc
    subst hc
    refine r_iconst (v := 0) (by decide) dX3_grundyOf_7 ?_
    exact r_ireturn rfl dX3_grundyOf_8 rfl ⟨_, rfl, hf⟩
theorem m_X3_grundyOf {l : Launch} {G : GG} {d : Nat} {v0 : Nat} {v1 : Nat} {v2 : Int32} {σ : Hp} {K : Int32 → Hp → Prop} (hr : rv σ v0 3) (hf : F_X3_grundyOf l G d v0 v1 v2 σ K) : C_X3_grundyOf l G (d + 1) v0 v1 v2 σ K := ⟨hr, Sp.of (by decide) (Nat.le_of_ble_eq_true rfl) (b_X3_grundyOf_0 hf) rfl⟩
def F_X3_grundyAt_23 (l : Launch) (G : GG) (d : Nat) (s0 : Int32) (σ : Hp) (K : Int32 → Hp → Prop) : Prop :=
  K s0 σ
set_option maxRecDepth 100000 in
set_option maxHeartbeats 4000000 in
theorem b_X3_grundyAt_23 {l : Launch} {G : GG} {d : Nat} {s0 : Int32} {σ : Hp} {K : Int32 → Hp → Prop} (hf : F_X3_grundyAt_23 l G d s0 σ K) : Wd l G (d + 1) "CoinsLaid$Outlook" yX3_grundyAt cX3_grundyAt 2 (some FieldType.int) 23 [] [aI s0] σ 0 0 (xM (QI K)) := by
  unfold F_X3_grundyAt_23 at hf
  exact r_ireturn rfl dX3_grundyAt_23 rfl ⟨_, rfl, hf⟩
def F_X3_grundyAt_22 (l : Launch) (G : GG) (d : Nat) (σ : Hp) (K : Int32 → Hp → Prop) : Prop :=
  F_X3_grundyAt_23 l G d 0 σ K
set_option maxRecDepth 100000 in
set_option maxHeartbeats 4000000 in
theorem b_X3_grundyAt_22 {l : Launch} {G : GG} {d : Nat} {σ : Hp} {K : Int32 → Hp → Prop} (hf : F_X3_grundyAt_22 l G d  σ K) : Wd l G (d + 1) "CoinsLaid$Outlook" yX3_grundyAt cX3_grundyAt 2 (some FieldType.int) 22 [] [] σ 0 0 (xM (QI K)) := by
  unfold F_X3_grundyAt_22 at hf
  refine r_iconst (v := 0) (by decide) dX3_grundyAt_22 ?_
  exact r_sub [] rfl (b_X3_grundyAt_23 hf)
def F_X3_grundyAt (l : Launch) (G : GG) (d : Nat) (v0 : Nat) (v1 : Int32) (σ : Hp) (K : Int32 → Hp → Prop) : Prop :=
  ((v1 : Int32) < 0 →
    F_X3_grundyAt_22 l G d σ K) ∧
  (¬ (v1 : Int32) < 0 →
    fN σ v0 3 10 fun x1 =>
    aL σ x1 fun x2 =>
    ((x2 : Int32) ≤ (v1 : Int32) →
      F_X3_grundyAt_22 l G d σ K) ∧
    (¬ (x2 : Int32) ≤ (v1 : Int32) →
      fN σ v0 3 10 fun x3 =>
      gI σ x3 v1 fun x4 =>
      F_X3_grundyAt_23 l G d x4 σ K))
set_option maxRecDepth 100000 in
set_option maxHeartbeats 4000000 in
theorem b_X3_grundyAt_0 {l : Launch} {G : GG} {d : Nat} {v0 : Nat} {v1 : Int32} {σ : Hp} {K : Int32 → Hp → Prop} (hf : F_X3_grundyAt l G d v0 v1 σ K) : Wd l G (d + 1) "CoinsLaid$Outlook" yX3_grundyAt cX3_grundyAt 2 (some FieldType.int) 0 [(0, aR (some v0)), (1, aI v1)] [] σ 0 0 (xM (QI K)) := by
  unfold F_X3_grundyAt at hf
  refine r_iload_n (j := 1) rfl rfl dX3_grundyAt_0 ?_
  refine r_iflt (x := v1) (tgt := 22) (by decide) dX3_grundyAt_1 (fun hc => ?_) (fun hc => ?_)
  · replace hf := hf.1 hc
    exact r_sub [] rfl (b_X3_grundyAt_22 hf)
  · replace hf := hf.2 hc
    refine r_iload_n (j := 1) rfl rfl dX3_grundyAt_4 ?_
    refine r_aload_n (j := 0) rfl rfl dX3_grundyAt_5 ?_
    obtain ⟨fs_x1, x1, ha_x1, hv_x1, hf⟩ := hf
    refine r_get (Cn := RX3) (Tt := TX3) (N := 11) (n := 10) rfl uw_X3 (Nat.le_of_ble_eq_true rfl) wd_1_56 ha_x1 hv_x1 dX3_grundyAt_6 ?_
    obtain ⟨t_x2, N_x2, f_x2, ha_x2, hf⟩ := hf
    refine r_alen ha_x2 dX3_grundyAt_9 ?_
    generalize nI N_x2 = x2 at hf ⊢
    refine r_icmpge (x := v1) (y := x2) (tgt := 22) (by decide) dX3_grundyAt_10 (fun hc => ?_) (fun hc => ?_)
    · replace hf := hf.1 hc
      exact r_sub [] rfl (b_X3_grundyAt_22 hf)
    · replace hf := hf.2 hc
      refine r_aload_n (j := 0) rfl rfl dX3_grundyAt_13 ?_
      obtain ⟨fs_x3, x3, ha_x3, hv_x3, hf⟩ := hf
      refine r_get (Cn := RX3) (Tt := TX3) (N := 11) (n := 10) rfl uw_X3 (Nat.le_of_ble_eq_true rfl) wd_1_56 ha_x3 hv_x3 dX3_grundyAt_14 ?_
      refine r_iload_n (j := 1) rfl rfl dX3_grundyAt_17 ?_
      obtain ⟨N_x4, f_x4, ha_x4, hi_x4, hf⟩ := hf
      refine r_iald ha_x4 hi_x4 dX3_grundyAt_18 ?_
      generalize f_x4 (v1 : Int32).toNatClampNeg = x4 at hf ⊢
      refine r_goto (tgt := 23) (by decide) dX3_grundyAt_19 ?_
      exact r_sub [] rfl (b_X3_grundyAt_23 hf)
theorem m_X3_grundyAt {l : Launch} {G : GG} {d : Nat} {v0 : Nat} {v1 : Int32} {σ : Hp} {K : Int32 → Hp → Prop} (hr : rv σ v0 3) (hf : F_X3_grundyAt l G d v0 v1 σ K) : C_X3_grundyAt l G (d + 1) v0 v1 σ K := ⟨hr, Sp.of (by decide) (Nat.le_of_ble_eq_true rfl) (b_X3_grundyAt_0 hf) rfl⟩
def F_X3_settleGrundy_39 (l : Launch) (G : GG) (d : Nat) (σ : Hp) (K : Hp → Prop) : Prop :=
  K σ
set_option maxRecDepth 100000 in
set_option maxHeartbeats 4000000 in
theorem b_X3_settleGrundy_39 {l : Launch} {G : GG} {d : Nat} {σ : Hp} {K : Hp → Prop} (hf : F_X3_settleGrundy_39 l G d  σ K) : Wd l G (d + 1) "CoinsLaid$Outlook" yX3_settleGrundy cX3_settleGrundy 8 none 39 [] [] σ 0 0 (xM (QV K)) := by
  unfold F_X3_settleGrundy_39 at hf
  exact r_return rfl dX3_settleGrundy_39 rfl ⟨rfl, hf⟩
def F_X3_settleGrundy_112 (l : Launch) (G : GG) (d : Nat) (X59 : Nat → Int32 → Int32 → Int32 → Nat → Int32 → Int32 → Hp → Prop) (v0 : Nat) (v1 : Int32) (v2 : Int32) (v3 : Int32) (v4 : Nat) (v5 : Int32) (v6 : Int32) (σ : Hp) (K : Hp → Prop) : Prop :=
  X59 v0 v1 v2 v3 v4 v5 (v6 + 1) σ
set_option maxRecDepth 100000 in
set_option maxHeartbeats 4000000 in
theorem b_X3_settleGrundy_112 {l : Launch} {G : GG} {d : Nat} {X59 : Nat → Int32 → Int32 → Int32 → Nat → Int32 → Int32 → Hp → Prop} {v0 : Nat} {v1 : Int32} {v2 : Int32} {v3 : Int32} {v4 : Nat} {v5 : Int32} {v6 : Int32} {σ : Hp} {K : Hp → Prop} (hX59 : ∀ v0 v1 v2 v3 v4 v5 v6 σ, X59 v0 v1 v2 v3 v4 v5 v6 σ → Wd l G (d + 1) "CoinsLaid$Outlook" yX3_settleGrundy cX3_settleGrundy 8 none 59 [(0, aR (some v0)), (1, aI v1), (2, aI v2), (3, aI v3), (4, aR (some v4)), (5, aI v5), (6, aI v6)] [] σ 0 0 (xM (QV K))) (hf : F_X3_settleGrundy_112 l G d X59 v0 v1 v2 v3 v4 v5 v6 σ K) : Wd l G (d + 1) "CoinsLaid$Outlook" yX3_settleGrundy cX3_settleGrundy 8 none 112 [(0, aR (some v0)), (1, aI v1), (2, aI v2), (3, aI v3), (4, aR (some v4)), (5, aI v5), (6, aI v6)] [] σ 0 0 (xM (QV K)) := by
  unfold F_X3_settleGrundy_112 at hf
  refine r_iinc (j := 6) (w := (v6 + 1)) (L' := [(6, aI (v6 + 1)), (0, aR (some v0)), (1, aI v1), (2, aI v2), (3, aI v3), (4, aR (some v4)), (5, aI v5)]) rfl (by rfl) rfl (Nat.le_of_ble_eq_true rfl) dX3_settleGrundy_112 ?_
  refine r_goto (tgt := 59) (by decide) dX3_settleGrundy_115 ?_
  exact r_sub [1, 2, 3, 4, 5, 6, 0] rfl (hX59 _ _ _ _ _ _ _ _ hf)
def F_X3_settleGrundy_59 (l : Launch) (G : GG) (d : Nat) (X59 : Nat → Int32 → Int32 → Int32 → Nat → Int32 → Int32 → Hp → Prop) (v0 : Nat) (v1 : Int32) (v2 : Int32) (v3 : Int32) (v4 : Nat) (v5 : Int32) (v6 : Int32) (σ : Hp) (K : Hp → Prop) : Prop :=
  ((v5 : Int32) ≤ (v6 : Int32) →
    fN σ v0 3 10 fun x1 =>
    C_J6_numberOfTrailingZeros_0f7a4 l G d (v3 ^^^ (-1)) σ fun r3 σ2 =>
    sI σ2 x1 v1 r3 fun σ4 =>
    fN σ4 v0 3 9 fun x6 =>
    fI σ4 v0 3 1 fun x7 =>
    sI σ4 x6 v1 x7 fun σ8 =>
    K σ8) ∧
  (¬ (v5 : Int32) ≤ (v6 : Int32) →
    gN 3 σ v4 v6 fun x10 =>
    C_X2_hasRoom l G d x10 v1 σ fun r12 σ11 =>
    (r12 = false →
      F_X3_settleGrundy_112 l G d X59 v0 v1 v2 v3 v4 v5 v6 σ11 K) ∧
    (r12 = true →
      fI σ11 x10 2 6 fun x13 =>
      C_X3_settleGrundy l G d v0 (v1 ||| x13) (v2 + 1) σ11 fun σ14 =>
      fI σ14 x10 2 6 fun x16 =>
      C_X3_grundyAt l G d v0 (v1 ||| x16) σ14 fun r18 σ17 =>
      F_X3_settleGrundy_112 l G d X59 v0 v1 v2 (v3 ||| (1 <<< (r18 &&& 31))) v4 v5 v6 σ17 K))
set_option maxRecDepth 100000 in
set_option maxHeartbeats 4000000 in
theorem b_X3_settleGrundy_59 {l : Launch} {G : GG} {d : Nat} {X59 : Nat → Int32 → Int32 → Int32 → Nat → Int32 → Int32 → Hp → Prop} {v0 : Nat} {v1 : Int32} {v2 : Int32} {v3 : Int32} {v4 : Nat} {v5 : Int32} {v6 : Int32} {σ : Hp} {K : Hp → Prop} (hX59 : ∀ v0 v1 v2 v3 v4 v5 v6 σ, X59 v0 v1 v2 v3 v4 v5 v6 σ → Wd l G (d + 1) "CoinsLaid$Outlook" yX3_settleGrundy cX3_settleGrundy 8 none 59 [(0, aR (some v0)), (1, aI v1), (2, aI v2), (3, aI v3), (4, aR (some v4)), (5, aI v5), (6, aI v6)] [] σ 0 0 (xM (QV K))) (hf : F_X3_settleGrundy_59 l G d X59 v0 v1 v2 v3 v4 v5 v6 σ K) : Wd l G (d + 1) "CoinsLaid$Outlook" yX3_settleGrundy cX3_settleGrundy 8 none 59 [(0, aR (some v0)), (1, aI v1), (2, aI v2), (3, aI v3), (4, aR (some v4)), (5, aI v5), (6, aI v6)] [] σ 0 0 (xM (QV K)) := by
  unfold F_X3_settleGrundy_59 at hf
  refine r_iload (j := 6) rfl dX3_settleGrundy_59 ?_
  refine r_iload (j := 5) rfl dX3_settleGrundy_61 ?_
  refine r_icmpge (x := v6) (y := v5) (tgt := 118) (by decide) dX3_settleGrundy_63 (fun hc => ?_) (fun hc => ?_)
  · replace hf := hf.1 hc
    refine r_aload_n (j := 0) rfl rfl dX3_settleGrundy_118 ?_
    obtain ⟨fs_x1, x1, ha_x1, hv_x1, hf⟩ := hf
    refine r_get (Cn := RX3) (Tt := TX3) (N := 11) (n := 10) rfl uw_X3 (Nat.le_of_ble_eq_true rfl) wd_1_56 ha_x1 hv_x1 dX3_settleGrundy_119 ?_
    refine r_iload_n (j := 1) rfl rfl dX3_settleGrundy_122 ?_
    refine r_iload_n (j := 3) rfl rfl dX3_settleGrundy_123 ?_
    refine r_iconst (v := (-1)) (by decide) dX3_settleGrundy_124 ?_
    refine r_ixor (x := v3) (y := (-1)) dX3_settleGrundy_125 ?_
    try unfold C_J6_numberOfTrailingZeros_0f7a4 at hf
    refine r_invSI (As := [aI (v3 ^^^ (-1))]) (dz := d) (mz := 0) (sz := 0) rfl wd_5_81 wd_5_82 cf_J6_numberOfTrailingZeros_0f7a4 (Nat.le_refl _) (Nat.zero_le _) (Nat.zero_le _) (cat_ok (Nat.le_of_ble_eq_true rfl)) dX3_settleGrundy_126 hf (fun r3 σ2 hk => ?_)
    replace hf := hk
    clear hk
    obtain ⟨N_x5, f_x5, ha_x5, hi_x5, hf⟩ := hf
    generalize hσ4 : hset σ2 x1 (iA N_x5 (up_ f_x5 (v1 : Int32).toNatClampNeg r3)) = σ4 at hf
    refine r_iast (f := f_x5) (x := r3) ha_x5 hi_x5 dX3_settleGrundy_129 ?_
    refine Eq.mpr (congrArg (fun z => Wd _ _ _ _ _ _ _ _ _ _ _ z _ _ _) hσ4) ?_
    refine r_aload_n (j := 0) rfl rfl dX3_settleGrundy_130 ?_
    obtain ⟨fs_x6, x6, ha_x6, hv_x6, hf⟩ := hf
    refine r_get (Cn := RX3) (Tt := TX3) (N := 11) (n := 9) rfl uw_X3 (Nat.le_of_ble_eq_true rfl) wd_1_55 ha_x6 hv_x6 dX3_settleGrundy_131 ?_
    refine r_iload_n (j := 1) rfl rfl dX3_settleGrundy_134 ?_
    refine r_aload_n (j := 0) rfl rfl dX3_settleGrundy_135 ?_
    obtain ⟨fs_x7, x7, ha_x7, hv_x7, hf⟩ := hf
    refine r_get (Cn := RX3) (Tt := TX3) (N := 11) (n := 1) rfl uw_X3 (Nat.le_of_ble_eq_true rfl) wd_1_47 ha_x7 hv_x7 dX3_settleGrundy_136 ?_
    obtain ⟨N_x9, f_x9, ha_x9, hi_x9, hf⟩ := hf
    generalize hσ8 : hset σ4 x6 (iA N_x9 (up_ f_x9 (v1 : Int32).toNatClampNeg x7)) = σ8 at hf
    refine r_iast (f := f_x9) (x := x7) ha_x9 hi_x9 dX3_settleGrundy_139 ?_
    refine Eq.mpr (congrArg (fun z => Wd _ _ _ _ _ _ _ _ _ _ _ z _ _ _) hσ8) ?_
    exact r_return rfl dX3_settleGrundy_140 rfl ⟨rfl, hf⟩
  · replace hf := hf.2 hc
    refine r_aload (j := 4) rfl dX3_settleGrundy_66 ?_
    refine r_iload (j := 6) rfl dX3_settleGrundy_68 ?_
    obtain ⟨N_x10, f_x10, x10, ha_x10, hi_x10, hv_x10, hf⟩ := hf
    refine r_aald3 ha_x10 hi_x10 dX3_settleGrundy_70 ?_
    rw [hv_x10]
    refine r_astore (L' := [(7, aR (some x10)), (0, aR (some v0)), (1, aI v1), (2, aI v2), (3, aI v3), (4, aR (some v4)), (5, aI v5), (6, aI v6)]) rfl (Nat.le_of_ble_eq_true rfl) dX3_settleGrundy_71 ?_
    refine r_aload (j := 0) rfl dX3_settleGrundy_73 ?_
    refine r_iload_n (j := 2) rfl rfl dX3_settleGrundy_75 ?_
    try unfold C_X2_hasRoom at hf
    obtain ⟨⟨fs_r12, ha_r12⟩, hf⟩ := hf
    refine r_invVZ (t := 2) (As := [aI v1]) (dz := d) (mz := 0) (sz := 0) rfl wd_5_76 wd_4_83 wd_4_84 cf_X2_hasRoom (Nat.le_refl _) (Nat.zero_le _) (Nat.zero_le _) (cat_ok (Nat.le_of_ble_eq_true rfl)) rfl rfl ha_r12 dX3_settleGrundy_76 hf (fun r12 σ11 hk => ?_)
    replace hf := hk
    clear hk
    refine r_ifeqZ (b := r12) (tgt := 112) (by decide) dX3_settleGrundy_79 (fun hc => ?_) (fun hc => ?_)
    · replace hf := hf.1 hc
      exact r_sub [1, 2, 3, 4, 5, 6, 7] rfl (b_X3_settleGrundy_112 hX59 hf)
    · replace hf := hf.2 hc
      refine r_aload_n (j := 1) rfl rfl dX3_settleGrundy_82 ?_
      refine r_iload_n (j := 2) rfl rfl dX3_settleGrundy_83 ?_
      refine r_aload (j := 0) rfl dX3_settleGrundy_84 ?_
      obtain ⟨fs_x13, x13, ha_x13, hv_x13, hf⟩ := hf
      refine r_get (Cn := RX2) (Tt := TX2) (N := 9) (n := 6) rfl uw_X2 (Nat.le_of_ble_eq_true rfl) wd_4_31 ha_x13 hv_x13 dX3_settleGrundy_86 ?_
      refine r_ior (x := v1) (y := x13) dX3_settleGrundy_89 ?_
      refine r_iload_n (j := 3) rfl rfl dX3_settleGrundy_90 ?_
      refine r_iconst (v := 1) (by decide) dX3_settleGrundy_91 ?_
      refine r_iadd (x := v2) (y := 1) dX3_settleGrundy_92 ?_
      try unfold C_X3_settleGrundy at hf
      refine r_invSU (As := [aR (some v0), aI (v1 ||| x13), aI (v2 + 1)]) (dz := d) (mz := 0) (sz := 0) rfl wd_5_73 wd_5_74 cf_X3_settleGrundy (Nat.le_refl _) (Nat.zero_le _) (Nat.zero_le _) (cat_ok (Nat.le_of_ble_eq_true rfl)) dX3_settleGrundy_93 hf (fun σ14 hk => ?_)
      replace hf := hk
      clear hk
      refine r_iload_n (j := 4) rfl rfl dX3_settleGrundy_96 ?_
      refine r_iconst (v := 1) (by decide) dX3_settleGrundy_97 ?_
      refine r_aload_n (j := 1) rfl rfl dX3_settleGrundy_98 ?_
      refine r_iload_n (j := 2) rfl rfl dX3_settleGrundy_99 ?_
      refine r_aload (j := 0) rfl dX3_settleGrundy_100 ?_
      obtain ⟨fs_x16, x16, ha_x16, hv_x16, hf⟩ := hf
      refine r_get (Cn := RX2) (Tt := TX2) (N := 9) (n := 6) rfl uw_X2 (Nat.le_of_ble_eq_true rfl) wd_4_31 ha_x16 hv_x16 dX3_settleGrundy_102 ?_
      refine r_ior (x := v1) (y := x16) dX3_settleGrundy_105 ?_
      try unfold C_X3_grundyAt at hf
      obtain ⟨⟨fs_r18, ha_r18⟩, hf⟩ := hf
      refine r_invVI (t := 3) (As := [aI (v1 ||| x16)]) (dz := d) (mz := 0) (sz := 0) rfl wd_5_77 wd_5_79 wd_p_39 cf_X3_grundyAt (Nat.le_refl _) (Nat.zero_le _) (Nat.zero_le _) (cat_ok (Nat.le_of_ble_eq_true rfl)) rfl rfl ha_r18 dX3_settleGrundy_106 hf (fun r18 σ17 hk => ?_)
      replace hf := hk
      clear hk
      refine r_ishl (x := 1) (y := r18) dX3_settleGrundy_109 ?_
      refine r_ior (x := v3) (y := (1 <<< (r18 &&& 31))) dX3_settleGrundy_110 ?_
      refine r_istore_n (L' := [(3, aI (v3 ||| (1 <<< (r18 &&& 31)))), (7, aR (some x10)), (0, aR (some v0)), (1, aI v1), (2, aI v2), (4, aR (some v4)), (5, aI v5), (6, aI v6)]) rfl rfl (Nat.le_of_ble_eq_true rfl) dX3_settleGrundy_111 ?_
      exact r_sub [2, 3, 4, 0, 5, 6, 7] rfl (b_X3_settleGrundy_112 hX59 hf)
def Z_X3_settleGrundy_59 (l : Launch) (G : GG) (d : Nat) (K : Hp → Prop) : Nat → Nat → Int32 → Int32 → Int32 → Nat → Int32 → Int32 → Hp → Prop
  | 0 => fun _ _ _ _ _ _ _ _ => False
  | n + 1 => fun v0 v1 v2 v3 v4 v5 v6 σ => F_X3_settleGrundy_59 l G d (Z_X3_settleGrundy_59 l G d K n) v0 v1 v2 v3 v4 v5 v6 σ K
theorem z_X3_settleGrundy_59 {l : Launch} {G : GG} {d : Nat} {K : Hp → Prop} : ∀ (n : Nat) v0 v1 v2 v3 v4 v5 v6 σ, Z_X3_settleGrundy_59 l G d K n v0 v1 v2 v3 v4 v5 v6 σ → Wd l G (d + 1) "CoinsLaid$Outlook" yX3_settleGrundy cX3_settleGrundy 8 none 59 [(0, aR (some v0)), (1, aI v1), (2, aI v2), (3, aI v3), (4, aR (some v4)), (5, aI v5), (6, aI v6)] [] σ 0 0 (xM (QV K)) := by
  intro n
  induction n with
  | zero => intro v0 v1 v2 v3 v4 v5 v6 σ hf; exact hf.elim
  | succ n ih => intro v0 v1 v2 v3 v4 v5 v6 σ hf; exact b_X3_settleGrundy_59 ih hf
def F_X3_settleGrundy (l : Launch) (G : GG) (d : Nat) (v0 : Nat) (v1 : Int32) (v2 : Int32) (σ : Hp) (K : Hp → Prop) : Prop :=
  fR σ v0 3 0 fun x19 =>
  (x19 = none →
    F_X3_settleGrundy_39 l G d σ K) ∧
  (∀ b20, x19 = some b20 →
    ((v1 : Int32) < 0 →
      F_X3_settleGrundy_39 l G d σ K) ∧
    (¬ (v1 : Int32) < 0 →
      fN σ v0 3 10 fun x21 =>
      aL σ x21 fun x22 =>
      ((x22 : Int32) ≤ (v1 : Int32) →
        F_X3_settleGrundy_39 l G d σ K) ∧
      (¬ (x22 : Int32) ≤ (v1 : Int32) →
        ((14 : Int32) < (v2 : Int32) →
          F_X3_settleGrundy_39 l G d σ K) ∧
        (¬ (14 : Int32) < (v2 : Int32) →
          fN σ v0 3 9 fun x23 =>
          gI σ x23 v1 fun x24 =>
          fI σ v0 3 1 fun x25 =>
          (¬ (x24 : Int32) = (x25 : Int32) →
            fR σ v0 3 0 fun x26 =>
            ∃ b27, x26 = some b27 ∧
            fN σ b27 8 8 fun x28 =>
            aL σ x28 fun x29 =>
            ∃ n, Z_X3_settleGrundy_59 l G d K n v0 v1 v2 0 x28 x29 0 σ) ∧
          ((x24 : Int32) = (x25 : Int32) →
            F_X3_settleGrundy_39 l G d σ K)))))
set_option maxRecDepth 100000 in
set_option maxHeartbeats 4000000 in
theorem b_X3_settleGrundy_0 {l : Launch} {G : GG} {d : Nat} {v0 : Nat} {v1 : Int32} {v2 : Int32} {σ : Hp} {K : Hp → Prop} (hf : F_X3_settleGrundy l G d v0 v1 v2 σ K) : Wd l G (d + 1) "CoinsLaid$Outlook" yX3_settleGrundy cX3_settleGrundy 8 none 0 [(0, aR (some v0)), (1, aI v1), (2, aI v2)] [] σ 0 0 (xM (QV K)) := by
  unfold F_X3_settleGrundy at hf
  refine r_aload_n (j := 0) rfl rfl dX3_settleGrundy_0 ?_
  obtain ⟨fs_x19, x19, ha_x19, hv_x19, hf⟩ := hf
  refine r_get (Cn := RX3) (Tt := TX3) (N := 11) (n := 0) rfl uw_X3 (Nat.le_of_ble_eq_true rfl) wd_1_45 ha_x19 hv_x19 dX3_settleGrundy_1 ?_
  refine r_ifnull (o := x19) (tgt := 39) (by decide) dX3_settleGrundy_4 (fun hc => ?_) (fun b20 hc => ?_)
  · replace hf := hf.1 hc
    subst hc
    exact r_sub [] rfl (b_X3_settleGrundy_39 hf)
  · replace hf := hf.2 b20 hc
    subst hc
    refine r_iload_n (j := 1) rfl rfl dX3_settleGrundy_7 ?_
    refine r_iflt (x := v1) (tgt := 39) (by decide) dX3_settleGrundy_8 (fun hc => ?_) (fun hc => ?_)
    · replace hf := hf.1 hc
      exact r_sub [] rfl (b_X3_settleGrundy_39 hf)
    · replace hf := hf.2 hc
      refine r_iload_n (j := 1) rfl rfl dX3_settleGrundy_11 ?_
      refine r_aload_n (j := 0) rfl rfl dX3_settleGrundy_12 ?_
      obtain ⟨fs_x21, x21, ha_x21, hv_x21, hf⟩ := hf
      refine r_get (Cn := RX3) (Tt := TX3) (N := 11) (n := 10) rfl uw_X3 (Nat.le_of_ble_eq_true rfl) wd_1_56 ha_x21 hv_x21 dX3_settleGrundy_13 ?_
      obtain ⟨t_x22, N_x22, f_x22, ha_x22, hf⟩ := hf
      refine r_alen ha_x22 dX3_settleGrundy_16 ?_
      generalize nI N_x22 = x22 at hf ⊢
      refine r_icmpge (x := v1) (y := x22) (tgt := 39) (by decide) dX3_settleGrundy_17 (fun hc => ?_) (fun hc => ?_)
      · replace hf := hf.1 hc
        exact r_sub [] rfl (b_X3_settleGrundy_39 hf)
      · replace hf := hf.2 hc
        refine r_iload_n (j := 2) rfl rfl dX3_settleGrundy_20 ?_
        refine r_bipush (v := 14) (by decide) dX3_settleGrundy_21 ?_
        refine r_icmpgt (x := v2) (y := 14) (tgt := 39) (by decide) dX3_settleGrundy_23 (fun hc => ?_) (fun hc => ?_)
        · replace hf := hf.1 hc
          exact r_sub [] rfl (b_X3_settleGrundy_39 hf)
        · replace hf := hf.2 hc
          refine r_aload_n (j := 0) rfl rfl dX3_settleGrundy_26 ?_
          obtain ⟨fs_x23, x23, ha_x23, hv_x23, hf⟩ := hf
          refine r_get (Cn := RX3) (Tt := TX3) (N := 11) (n := 9) rfl uw_X3 (Nat.le_of_ble_eq_true rfl) wd_1_55 ha_x23 hv_x23 dX3_settleGrundy_27 ?_
          refine r_iload_n (j := 1) rfl rfl dX3_settleGrundy_30 ?_
          obtain ⟨N_x24, f_x24, ha_x24, hi_x24, hf⟩ := hf
          refine r_iald ha_x24 hi_x24 dX3_settleGrundy_31 ?_
          generalize f_x24 (v1 : Int32).toNatClampNeg = x24 at hf ⊢
          refine r_aload_n (j := 0) rfl rfl dX3_settleGrundy_32 ?_
          obtain ⟨fs_x25, x25, ha_x25, hv_x25, hf⟩ := hf
          refine r_get (Cn := RX3) (Tt := TX3) (N := 11) (n := 1) rfl uw_X3 (Nat.le_of_ble_eq_true rfl) wd_1_47 ha_x25 hv_x25 dX3_settleGrundy_33 ?_
          refine r_icmpne (x := x24) (y := x25) (tgt := 40) (by decide) dX3_settleGrundy_36 (fun hc => ?_) (fun hc => ?_)
          · replace hf := hf.1 hc
            refine r_iconst (v := 0) (by decide) dX3_settleGrundy_40 ?_
            refine r_istore_n (L' := [(3, aI 0), (0, aR (some v0)), (1, aI v1), (2, aI v2)]) rfl rfl (Nat.le_of_ble_eq_true rfl) dX3_settleGrundy_41 ?_
            refine r_aload_n (j := 1) rfl rfl dX3_settleGrundy_42 ?_
            obtain ⟨fs_x26, x26, ha_x26, hv_x26, hf⟩ := hf
            refine r_get (Cn := RX3) (Tt := TX3) (N := 11) (n := 0) rfl uw_X3 (Nat.le_of_ble_eq_true rfl) wd_1_45 ha_x26 hv_x26 dX3_settleGrundy_43 ?_
            obtain ⟨b27, hb_b27, hf⟩ := hf
            subst hb_b27
            obtain ⟨fs_x28, x28, ha_x28, hv_x28, hf⟩ := hf
            refine r_get (Cn := RX8) (Tt := TX8) (N := 9) (n := 8) rfl uw_X8 (Nat.le_of_ble_eq_true rfl) wd_2_82 ha_x28 hv_x28 dX3_settleGrundy_46 ?_
            refine r_astore (L' := [(4, aR (some x28)), (3, aI 0), (0, aR (some v0)), (1, aI v1), (2, aI v2)]) rfl (Nat.le_of_ble_eq_true rfl) dX3_settleGrundy_49 ?_
            refine r_aload (j := 0) rfl dX3_settleGrundy_51 ?_
            obtain ⟨t_x29, N_x29, f_x29, ha_x29, hf⟩ := hf
            refine r_alen ha_x29 dX3_settleGrundy_53 ?_
            generalize nI N_x29 = x29 at hf ⊢
            refine r_istore (L' := [(5, aI x29), (4, aR (some x28)), (3, aI 0), (0, aR (some v0)), (1, aI v1), (2, aI v2)]) rfl (Nat.le_of_ble_eq_true rfl) dX3_settleGrundy_54 ?_
            refine r_iconst (v := 0) (by decide) dX3_settleGrundy_56 ?_
            refine r_istore (L' := [(6, aI 0), (5, aI x29), (4, aR (some x28)), (3, aI 0), (0, aR (some v0)), (1, aI v1), (2, aI v2)]) rfl (Nat.le_of_ble_eq_true rfl) dX3_settleGrundy_57 ?_
            obtain ⟨n, hf⟩ := hf
            exact r_sub [4, 5, 6, 3, 2, 1, 0] rfl (z_X3_settleGrundy_59 n _ _ _ _ _ _ _ _ hf)
          · replace hf := hf.2 hc
            exact r_sub [] rfl (b_X3_settleGrundy_39 hf)
theorem m_X3_settleGrundy {l : Launch} {G : GG} {d : Nat} {v0 : Nat} {v1 : Int32} {v2 : Int32} {σ : Hp} {K : Hp → Prop} (hf : F_X3_settleGrundy l G d v0 v1 v2 σ K) : C_X3_settleGrundy l G (d + 1) v0 v1 v2 σ K := Sp.of (by decide) (Nat.le_of_ble_eq_true rfl) (b_X3_settleGrundy_0 hf) rfl
def F_X6_init (l : Launch) (G : GG) (d : Nat) (v0 : Nat) (σ : Hp) (bc bs : Nat) (K : Hp → Prop) : Prop :=
  nO σ 1 [aR none, aI 0, aI 0, aI 0] 4 bc bs fun q1 σ2 =>
  ∃ mz5 sz6, mz5 ≤ (bc - 1) ∧ sz6 ≤ (bs - 4) ∧ C_X1_init l G d mz5 sz6 q1 σ2 fun σ3 =>
  pF σ3 v0 6 0 (aR (some q1)) fun σ7 =>
  K σ7
set_option maxRecDepth 100000 in
set_option maxHeartbeats 4000000 in
theorem b_X6_init_0 {l : Launch} {G : GG} {d : Nat} {v0 : Nat} {σ : Hp} {bc bs : Nat} {K : Hp → Prop} (hf : F_X6_init l G d v0 σ bc bs K) : Wd l G (d + 1) "CoinsLaid$Players" yX6_init cX6_init 1 none 0 [(0, aR (some v0))] [] σ bc bs (xM (QV K)) := by
  unfold F_X6_init at hf
  refine r_aload_n (j := 0) rfl rfl dX6_init_0 ?_
  refine r_objInit wd_1_142 wd_1_37 wd_1_38 (Nat.le_add_left 1 d) (cat_ok (Nat.le_of_ble_eq_true rfl)) dX6_init_1 ?_
  refine r_aload_n (j := 0) rfl rfl dX6_init_4 ?_
  obtain ⟨hbc, hbs, hf⟩ := hf
  refine r_new (t := 1) (Cn := RX1) (Tt := TX1) (N := 4) (fs := [aR none, aI 0, aI 0, aI 0]) (ty0 := tyX1) rfl uw_X1 tyX1_ok wd_1_143 wd_1_84 wd_1_3 rfl dfv_X1 hbc hbs dX6_init_5 (fun q1 hq_q1 => ?_)
  replace hf := hf q1 hq_q1
  generalize hset σ q1 (.inl (1, [aR none, aI 0, aI 0, aI 0])) = σ2 at hf ⊢
  refine r_dup rfl dX6_init_8 ?_
  obtain ⟨mz5, sz6, hbc, hbs, hf⟩ := hf
  try unfold C_X1_init at hf
  refine r_invINU (host := "CoinsLaid") (As := []) (dz := d) (mz := mz5) (sz := sz6) rfl (List.mem_of_getElem? (i := 3) rfl) wd_1_86 rfl rfl cf_X1_init (Nat.le_refl _) hbc hbs (cat_ok (Nat.le_of_ble_eq_true rfl)) dX6_init_9 hf (fun σ3 hk => ?_)
  replace hf := hk
  clear hk
  obtain ⟨fs_x8, ha_x8, hf⟩ := hf
  generalize hσ7 : hset σ3 v0 (.inl (6, fs_x8.set 0 (aR (some q1)))) = σ7 at hf
  refine r_putF (Cn := RX6) (Tt := TX6) (N := 1) (n := 0) (v := aR (some q1)) rfl uw_X6 (Nat.le_of_ble_eq_true rfl) wd_1_145 ha_x8 (ty0 := tyX6) tyX6_ok nmX6 rfl rfl rfl (fo_R _ (some q1)) dX6_init_12 ?_
  rw [hσ7]
  exact r_return rfl dX6_init_15 rfl ⟨rfl, hf⟩
theorem m_X6_init {l : Launch} {G : GG} {d : Nat} {mc ms : Nat} {v0 : Nat} {σ : Hp} {K : Hp → Prop} (hf : F_X6_init l G d v0 σ mc ms K) : C_X6_init l G (d + 1) mc ms v0 σ K := Sp.of (by decide) (Nat.le_of_ble_eq_true rfl) (b_X6_init_0 hf) rfl
def F_X6_wouldLay (l : Launch) (G : GG) (d : Nat) (v0 : Nat) (v1 : Int32) (v2 : Nat) (v3 : Nat) (σ : Hp) (K : Option Nat → Hp → Prop) : Prop :=
  fN σ v0 6 0 fun x1 =>
  C_X1_copy l G d x1 v3 σ fun σ2 =>
  fN σ2 v0 6 0 fun x4 =>
  C_X6_choose l G d v0 v1 v2 x4 σ2 fun r6 σ5 =>
  K r6 σ5
set_option maxRecDepth 100000 in
set_option maxHeartbeats 4000000 in
theorem b_X6_wouldLay_0 {l : Launch} {G : GG} {d : Nat} {v0 : Nat} {v1 : Int32} {v2 : Nat} {v3 : Nat} {σ : Hp} {K : Option Nat → Hp → Prop} (hf : F_X6_wouldLay l G d v0 v1 v2 v3 σ K) : Wd l G (d + 1) "CoinsLaid$Players" yX6_wouldLay cX6_wouldLay 4 (some (FieldType.object "CoinsLaid$Lay")) 0 [(0, aR (some v0)), (1, aI v1), (2, aR (some v2)), (3, aR (some v3))] [] σ 0 0 (xM (QR K)) := by
  unfold F_X6_wouldLay at hf
  refine r_aload_n (j := 0) rfl rfl dX6_wouldLay_0 ?_
  obtain ⟨fs_x1, x1, ha_x1, hv_x1, hf⟩ := hf
  refine r_get (Cn := RX6) (Tt := TX6) (N := 1) (n := 0) rfl uw_X6 (Nat.le_of_ble_eq_true rfl) wd_1_145 ha_x1 hv_x1 dX6_wouldLay_1 ?_
  refine r_aload_n (j := 3) rfl rfl dX6_wouldLay_4 ?_
  try unfold C_X1_copy at hf
  obtain ⟨⟨fs_r3, ha_r3⟩, hf⟩ := hf
  refine r_invVU (t := 1) (As := [aR (some v3)]) (dz := d) (mz := 0) (sz := 0) rfl wd_5_211 wd_4_103 wd_4_104 cf_X1_copy (Nat.le_refl _) (Nat.zero_le _) (Nat.zero_le _) (cat_ok (Nat.le_of_ble_eq_true rfl)) rfl rfl ha_r3 dX6_wouldLay_5 hf (fun σ2 hk => ?_)
  replace hf := hk
  clear hk
  refine r_aload_n (j := 0) rfl rfl dX6_wouldLay_8 ?_
  refine r_iload_n (j := 1) rfl rfl dX6_wouldLay_9 ?_
  refine r_aload_n (j := 2) rfl rfl dX6_wouldLay_10 ?_
  refine r_aload_n (j := 0) rfl rfl dX6_wouldLay_11 ?_
  obtain ⟨fs_x4, x4, ha_x4, hv_x4, hf⟩ := hf
  refine r_get (Cn := RX6) (Tt := TX6) (N := 1) (n := 0) rfl uw_X6 (Nat.le_of_ble_eq_true rfl) wd_1_145 ha_x4 hv_x4 dX6_wouldLay_12 ?_
  try unfold C_X6_choose at hf
  obtain ⟨⟨fs_r6, ha_r6⟩, hf⟩ := hf
  refine r_invVR (t := 6) (As := [aI v1, aR (some v2), aR (some x4)]) (dz := d) (mz := 0) (sz := 0) rfl wd_5_212 wd_5_213 wd_5_214 cf_X6_choose (Nat.le_refl _) (Nat.zero_le _) (Nat.zero_le _) (cat_ok (Nat.le_of_ble_eq_true rfl)) rfl rfl ha_r6 dX6_wouldLay_15 hf (fun r6 σ5 hk => ?_)
  replace hf := hk
  clear hk
  exact r_areturn rfl (Or.inl ⟨_, rfl⟩) dX6_wouldLay_18 rfl ⟨_, rfl, hf⟩
theorem m_X6_wouldLay {l : Launch} {G : GG} {d : Nat} {v0 : Nat} {v1 : Int32} {v2 : Nat} {v3 : Nat} {σ : Hp} {K : Option Nat → Hp → Prop} (hr : rv σ v0 6) (hf : F_X6_wouldLay l G d v0 v1 v2 v3 σ K) : C_X6_wouldLay l G (d + 1) v0 v1 v2 v3 σ K := ⟨hr, Sp.of (by decide) (Nat.le_of_ble_eq_true rfl) (b_X6_wouldLay_0 hf) rfl⟩
def F_X6_lengthOfMatch_32 (l : Launch) (G : GG) (d : Nat) (X12 : Nat → Int32 → Int32 → Nat → Int32 → Hp → Prop) (v0 : Nat) (v1 : Int32) (v2 : Int32) (v3 : Nat) (v5 : Int32) (s0 : Nat) (s1 : Int32) (σ : Hp) (K : Int32 → Hp → Prop) : Prop :=
  fN σ v0 6 0 fun x1 =>
  C_X6_choose l G d s0 s1 v3 x1 σ fun r3 σ2 =>
  (∀ b4, r3 = some b4 →
    fN σ2 v0 6 0 fun x5 =>
    C_X1_add l G d x5 (some b4) σ2 fun σ6 =>
    X12 v0 v1 v2 v3 (v5 + 1) σ6) ∧
  (r3 = none →
    K v5 σ2)
set_option maxRecDepth 100000 in
set_option maxHeartbeats 4000000 in
theorem b_X6_lengthOfMatch_32 {l : Launch} {G : GG} {d : Nat} {X12 : Nat → Int32 → Int32 → Nat → Int32 → Hp → Prop} {v0 : Nat} {v1 : Int32} {v2 : Int32} {v3 : Nat} {v5 : Int32} {s0 : Nat} {s1 : Int32} {σ : Hp} {K : Int32 → Hp → Prop} (hX12 : ∀ v0 v1 v2 v3 v5 σ, X12 v0 v1 v2 v3 v5 σ → Wd l G (d + 1) "CoinsLaid$Players" yX6_lengthOfMatch cX6_lengthOfMatch 7 (some FieldType.int) 12 [(0, aR (some v0)), (1, aI v1), (2, aI v2), (3, aR (some v3)), (5, aI v5)] [] σ 0 0 (xM (QI K))) (hf : F_X6_lengthOfMatch_32 l G d X12 v0 v1 v2 v3 v5 s0 s1 σ K) : Wd l G (d + 1) "CoinsLaid$Players" yX6_lengthOfMatch cX6_lengthOfMatch 7 (some FieldType.int) 32 [(0, aR (some v0)), (1, aI v1), (2, aI v2), (3, aR (some v3)), (5, aI v5)] [aI s1, aR (some s0)] σ 0 0 (xM (QI K)) := by
  unfold F_X6_lengthOfMatch_32 at hf
  refine r_aload_n (j := 3) rfl rfl dX6_lengthOfMatch_32 ?_
  refine r_aload_n (j := 0) rfl rfl dX6_lengthOfMatch_33 ?_
  obtain ⟨fs_x1, x1, ha_x1, hv_x1, hf⟩ := hf
  refine r_get (Cn := RX6) (Tt := TX6) (N := 1) (n := 0) rfl uw_X6 (Nat.le_of_ble_eq_true rfl) wd_1_145 ha_x1 hv_x1 dX6_lengthOfMatch_34 ?_
  try unfold C_X6_choose at hf
  obtain ⟨⟨fs_r3, ha_r3⟩, hf⟩ := hf
  refine r_invVR (t := 6) (As := [aI s1, aR (some v3), aR (some x1)]) (dz := d) (mz := 0) (sz := 0) rfl wd_5_212 wd_5_213 wd_5_214 cf_X6_choose (Nat.le_refl _) (Nat.zero_le _) (Nat.zero_le _) (cat_ok (Nat.le_of_ble_eq_true rfl)) rfl rfl ha_r3 dX6_lengthOfMatch_37 hf (fun r3 σ2 hk => ?_)
  replace hf := hk
  clear hk
  refine r_astore (L' := [(6, aR r3), (0, aR (some v0)), (1, aI v1), (2, aI v2), (3, aR (some v3)), (5, aI v5)]) rfl (Nat.le_of_ble_eq_true rfl) dX6_lengthOfMatch_40 ?_
  refine r_aload (j := 0) rfl dX6_lengthOfMatch_42 ?_
  refine r_ifnonnull (o := r3) (tgt := 50) (by decide) dX6_lengthOfMatch_44 (fun b4 hc => ?_) (fun hc => ?_)
  · replace hf := hf.1 b4 hc
    subst hc
    refine r_aload_n (j := 1) rfl rfl dX6_lengthOfMatch_50 ?_
    obtain ⟨fs_x5, x5, ha_x5, hv_x5, hf⟩ := hf
    refine r_get (Cn := RX6) (Tt := TX6) (N := 1) (n := 0) rfl uw_X6 (Nat.le_of_ble_eq_true rfl) wd_1_145 ha_x5 hv_x5 dX6_lengthOfMatch_51 ?_
    refine r_aload (j := 0) rfl dX6_lengthOfMatch_54 ?_
    try unfold C_X1_add at hf
    obtain ⟨⟨fs_r7, ha_r7⟩, hf⟩ := hf
    refine r_invVU (t := 1) (As := [aR (some b4)]) (dz := d) (mz := 0) (sz := 0) rfl wd_6_14 wd_4_87 wd_4_88 cf_X1_add (Nat.le_refl _) (Nat.zero_le _) (Nat.zero_le _) (cat_ok (Nat.le_of_ble_eq_true rfl)) rfl rfl ha_r7 dX6_lengthOfMatch_56 hf (fun σ6 hk => ?_)
    replace hf := hk
    clear hk
    refine r_iinc (j := 5) (w := (v5 + 1)) (L' := [(5, aI (v5 + 1)), (6, aR (some b4)), (0, aR (some v0)), (1, aI v1), (2, aI v2), (3, aR (some v3))]) rfl (by rfl) rfl (Nat.le_of_ble_eq_true rfl) dX6_lengthOfMatch_59 ?_
    refine r_goto (tgt := 12) (by decide) dX6_lengthOfMatch_62 ?_
    exact r_sub [2, 3, 4, 5, 0] rfl (hX12 _ _ _ _ _ _ hf)
  · replace hf := hf.2 hc
    subst hc
    refine r_iload (j := 5) rfl dX6_lengthOfMatch_47 ?_
    exact r_ireturn rfl dX6_lengthOfMatch_49 rfl ⟨_, rfl, hf⟩
def F_X6_lengthOfMatch_12 (l : Launch) (G : GG) (d : Nat) (X12 : Nat → Int32 → Int32 → Nat → Int32 → Hp → Prop) (v0 : Nat) (v1 : Int32) (v2 : Int32) (v3 : Nat) (v5 : Int32) (σ : Hp) (K : Int32 → Hp → Prop) : Prop :=
  ((14 : Int32) ≤ (v5 : Int32) →
    K 14 σ) ∧
  (¬ (14 : Int32) ≤ (v5 : Int32) →
    (¬ ((v5 &&& 1) : Int32) = 0 →
      F_X6_lengthOfMatch_32 l G d X12 v0 v1 v2 v3 v5 v0 v2 σ K) ∧
    (((v5 &&& 1) : Int32) = 0 →
      F_X6_lengthOfMatch_32 l G d X12 v0 v1 v2 v3 v5 v0 v1 σ K))
set_option maxRecDepth 100000 in
set_option maxHeartbeats 4000000 in
theorem b_X6_lengthOfMatch_12 {l : Launch} {G : GG} {d : Nat} {X12 : Nat → Int32 → Int32 → Nat → Int32 → Hp → Prop} {v0 : Nat} {v1 : Int32} {v2 : Int32} {v3 : Nat} {v5 : Int32} {σ : Hp} {K : Int32 → Hp → Prop} (hX12 : ∀ v0 v1 v2 v3 v5 σ, X12 v0 v1 v2 v3 v5 σ → Wd l G (d + 1) "CoinsLaid$Players" yX6_lengthOfMatch cX6_lengthOfMatch 7 (some FieldType.int) 12 [(0, aR (some v0)), (1, aI v1), (2, aI v2), (3, aR (some v3)), (5, aI v5)] [] σ 0 0 (xM (QI K))) (hf : F_X6_lengthOfMatch_12 l G d X12 v0 v1 v2 v3 v5 σ K) : Wd l G (d + 1) "CoinsLaid$Players" yX6_lengthOfMatch cX6_lengthOfMatch 7 (some FieldType.int) 12 [(0, aR (some v0)), (1, aI v1), (2, aI v2), (3, aR (some v3)), (5, aI v5)] [] σ 0 0 (xM (QI K)) := by
  unfold F_X6_lengthOfMatch_12 at hf
  refine r_iload (j := 4) rfl dX6_lengthOfMatch_12 ?_
  refine r_bipush (v := 14) (by decide) dX6_lengthOfMatch_14 ?_
  refine r_icmpge (x := v5) (y := 14) (tgt := 65) (by decide) dX6_lengthOfMatch_16 (fun hc => ?_) (fun hc => ?_)
  · replace hf := hf.1 hc
    refine r_bipush (v := 14) (by decide) dX6_lengthOfMatch_65 ?_
    exact r_ireturn rfl dX6_lengthOfMatch_67 rfl ⟨_, rfl, hf⟩
  · replace hf := hf.2 hc
    refine r_aload_n (j := 0) rfl rfl dX6_lengthOfMatch_19 ?_
    refine r_iload (j := 4) rfl dX6_lengthOfMatch_20 ?_
    refine r_iconst (v := 1) (by decide) dX6_lengthOfMatch_22 ?_
    refine r_iand (x := v5) (y := 1) dX6_lengthOfMatch_23 ?_
    refine r_ifne (x := (v5 &&& 1)) (tgt := 31) (by decide) dX6_lengthOfMatch_24 (fun hc => ?_) (fun hc => ?_)
    · replace hf := hf.1 hc
      refine r_iload_n (j := 2) rfl rfl dX6_lengthOfMatch_31 ?_
      exact r_sub [0, 1, 2, 3, 4] rfl (b_X6_lengthOfMatch_32 hX12 hf)
    · replace hf := hf.2 hc
      refine r_iload_n (j := 1) rfl rfl dX6_lengthOfMatch_27 ?_
      refine r_goto (tgt := 32) (by decide) dX6_lengthOfMatch_28 ?_
      exact r_sub [0, 1, 2, 3, 4] rfl (b_X6_lengthOfMatch_32 hX12 hf)
def Z_X6_lengthOfMatch_12 (l : Launch) (G : GG) (d : Nat) (K : Int32 → Hp → Prop) : Nat → Nat → Int32 → Int32 → Nat → Int32 → Hp → Prop
  | 0 => fun _ _ _ _ _ _ => False
  | n + 1 => fun v0 v1 v2 v3 v5 σ => F_X6_lengthOfMatch_12 l G d (Z_X6_lengthOfMatch_12 l G d K n) v0 v1 v2 v3 v5 σ K
theorem z_X6_lengthOfMatch_12 {l : Launch} {G : GG} {d : Nat} {K : Int32 → Hp → Prop} : ∀ (n : Nat) v0 v1 v2 v3 v5 σ, Z_X6_lengthOfMatch_12 l G d K n v0 v1 v2 v3 v5 σ → Wd l G (d + 1) "CoinsLaid$Players" yX6_lengthOfMatch cX6_lengthOfMatch 7 (some FieldType.int) 12 [(0, aR (some v0)), (1, aI v1), (2, aI v2), (3, aR (some v3)), (5, aI v5)] [] σ 0 0 (xM (QI K)) := by
  intro n
  induction n with
  | zero => intro v0 v1 v2 v3 v5 σ hf; exact hf.elim
  | succ n ih => intro v0 v1 v2 v3 v5 σ hf; exact b_X6_lengthOfMatch_12 ih hf
def F_X6_lengthOfMatch (l : Launch) (G : GG) (d : Nat) (v0 : Nat) (v1 : Int32) (v2 : Int32) (v3 : Nat) (v4 : Nat) (σ : Hp) (K : Int32 → Hp → Prop) : Prop :=
  fN σ v0 6 0 fun x8 =>
  C_X1_copy l G d x8 v4 σ fun σ9 =>
  ∃ n, Z_X6_lengthOfMatch_12 l G d K n v0 v1 v2 v3 0 σ9
set_option maxRecDepth 100000 in
set_option maxHeartbeats 4000000 in
theorem b_X6_lengthOfMatch_0 {l : Launch} {G : GG} {d : Nat} {v0 : Nat} {v1 : Int32} {v2 : Int32} {v3 : Nat} {v4 : Nat} {σ : Hp} {K : Int32 → Hp → Prop} (hf : F_X6_lengthOfMatch l G d v0 v1 v2 v3 v4 σ K) : Wd l G (d + 1) "CoinsLaid$Players" yX6_lengthOfMatch cX6_lengthOfMatch 7 (some FieldType.int) 0 [(0, aR (some v0)), (1, aI v1), (2, aI v2), (3, aR (some v3)), (4, aR (some v4))] [] σ 0 0 (xM (QI K)) := by
  unfold F_X6_lengthOfMatch at hf
  refine r_aload_n (j := 0) rfl rfl dX6_lengthOfMatch_0 ?_
  obtain ⟨fs_x8, x8, ha_x8, hv_x8, hf⟩ := hf
  refine r_get (Cn := RX6) (Tt := TX6) (N := 1) (n := 0) rfl uw_X6 (Nat.le_of_ble_eq_true rfl) wd_1_145 ha_x8 hv_x8 dX6_lengthOfMatch_1 ?_
  refine r_aload (j := 4) rfl dX6_lengthOfMatch_4 ?_
  try unfold C_X1_copy at hf
  obtain ⟨⟨fs_r10, ha_r10⟩, hf⟩ := hf
  refine r_invVU (t := 1) (As := [aR (some v4)]) (dz := d) (mz := 0) (sz := 0) rfl wd_5_211 wd_4_103 wd_4_104 cf_X1_copy (Nat.le_refl _) (Nat.zero_le _) (Nat.zero_le _) (cat_ok (Nat.le_of_ble_eq_true rfl)) rfl rfl ha_r10 dX6_lengthOfMatch_6 hf (fun σ9 hk => ?_)
  replace hf := hk
  clear hk
  refine r_iconst (v := 0) (by decide) dX6_lengthOfMatch_9 ?_
  refine r_istore (L' := [(5, aI 0), (0, aR (some v0)), (1, aI v1), (2, aI v2), (3, aR (some v3)), (4, aR (some v4))]) rfl (Nat.le_of_ble_eq_true rfl) dX6_lengthOfMatch_10 ?_
  obtain ⟨n, hf⟩ := hf
  exact r_sub [1, 2, 3, 4, 0] rfl (z_X6_lengthOfMatch_12 n _ _ _ _ _ _ hf)
theorem m_X6_lengthOfMatch {l : Launch} {G : GG} {d : Nat} {v0 : Nat} {v1 : Int32} {v2 : Int32} {v3 : Nat} {v4 : Nat} {σ : Hp} {K : Int32 → Hp → Prop} (hr : rv σ v0 6) (hf : F_X6_lengthOfMatch l G d v0 v1 v2 v3 v4 σ K) : C_X6_lengthOfMatch l G (d + 1) v0 v1 v2 v3 v4 σ K := ⟨hr, Sp.of (by decide) (Nat.le_of_ble_eq_true rfl) (b_X6_lengthOfMatch_0 hf) rfl⟩
def F_X6_choose_29 (l : Launch) (G : GG) (d : Nat) (v1 : Int32) (v2 : Nat) (v3 : Nat) (v4 : Option Nat) (s0 : Option Nat) (σ : Hp) (K : Option Nat → Hp → Prop) : Prop :=
  (∀ b1, s0 = some b1 →
    ((v1 : Int32) = 1 →
      ∃ b2, v4 = some b2 ∧
      C_X6_barest l G d b2 v3 σ fun r4 σ3 =>
      K r4 σ3) ∧
    ((v1 : Int32) = 2 →
      C_X6_acrossLatest l G d v3 b1 σ fun r6 σ5 =>
      K r6 σ5) ∧
    ((v1 : Int32) = 3 →
      ∃ b7, v4 = some b7 ∧
      C_X6_drawn l G d b7 v3 σ fun r9 σ8 =>
      K r9 σ8) ∧
    ((v1 : Int32) = 4 →
      fI σ v3 1 2 fun x10 =>
      C_X1_next l G d v3 σ fun r12 σ11 =>
      C_X3_firstWinning l G d v2 x10 r12 σ11 fun r14 σ13 =>
      C_X6_orElse l G d r14 (some b1) σ13 fun r16 σ15 =>
      K r16 σ15) ∧
    (¬ (v1 : Int32) = 1 → ¬ (v1 : Int32) = 2 → ¬ (v1 : Int32) = 3 → ¬ (v1 : Int32) = 4 →
      K (some b1) σ)) ∧
  (s0 = none →
    K none σ)
set_option maxRecDepth 100000 in
set_option maxHeartbeats 4000000 in
theorem b_X6_choose_29 {l : Launch} {G : GG} {d : Nat} {v1 : Int32} {v2 : Nat} {v3 : Nat} {v4 : Option Nat} {s0 : Option Nat} {σ : Hp} {K : Option Nat → Hp → Prop} (hf : F_X6_choose_29 l G d v1 v2 v3 v4 s0 σ K) : Wd l G (d + 1) "CoinsLaid$Players" yX6_choose cX6_choose 6 (some (FieldType.object "CoinsLaid$Lay")) 29 [(1, aI v1), (2, aR (some v2)), (3, aR (some v3)), (4, aR v4)] [aR s0] σ 0 0 (xM (QR K)) := by
  unfold F_X6_choose_29 at hf
  refine r_astore (L' := [(5, aR s0), (1, aI v1), (2, aR (some v2)), (3, aR (some v3)), (4, aR v4)]) rfl (Nat.le_of_ble_eq_true rfl) dX6_choose_29 ?_
  refine r_aload (j := 0) rfl dX6_choose_31 ?_
  refine r_ifnonnull (o := s0) (tgt := 38) (by decide) dX6_choose_33 (fun b1 hc => ?_) (fun hc => ?_)
  · replace hf := hf.1 b1 hc
    subst hc
    refine r_iload_n (j := 1) rfl rfl dX6_choose_38 ?_
    by_cases hc1 : (v1 : Int32) = 1
    · replace hf := hf.1 hc1
      refine r_tabIn (tgt := 68) (off := 29) (by rw [hc1]; decide) (by rw [hc1]; decide) (by rw [hc1]; decide) (by decide) dX6_choose_39 ?_
      refine r_aload (j := 4) rfl dX6_choose_68 ?_
      refine r_aload_n (j := 3) rfl rfl dX6_choose_70 ?_
      obtain ⟨b2, hb_b2, hf⟩ := hf
      subst hb_b2
      try unfold C_X6_barest at hf
      refine r_invSR (As := [aR (some b2), aR (some v3)]) (dz := d) (mz := 0) (sz := 0) rfl wd_5_218 wd_5_219 cf_X6_barest (Nat.le_refl _) (Nat.zero_le _) (Nat.zero_le _) (cat_ok (Nat.le_of_ble_eq_true rfl)) dX6_choose_71 hf (fun r4 σ3 hk => ?_)
      replace hf := hk
      clear hk
      exact r_areturn rfl (Or.inl ⟨_, rfl⟩) dX6_choose_74 rfl ⟨_, rfl, hf⟩
    by_cases hc2 : (v1 : Int32) = 2
    · replace hf := hf.2.1 hc2
      refine r_tabIn (tgt := 75) (off := 36) (by rw [hc2]; decide) (by rw [hc2]; decide) (by rw [hc2]; decide) (by decide) dX6_choose_39 ?_
      refine r_aload_n (j := 3) rfl rfl dX6_choose_75 ?_
      refine r_aload (j := 0) rfl dX6_choose_76 ?_
      try unfold C_X6_acrossLatest at hf
      refine r_invSR (As := [aR (some v3), aR (some b1)]) (dz := d) (mz := 0) (sz := 0) rfl wd_5_223 wd_5_224 cf_X6_acrossLatest (Nat.le_refl _) (Nat.zero_le _) (Nat.zero_le _) (cat_ok (Nat.le_of_ble_eq_true rfl)) dX6_choose_78 hf (fun r6 σ5 hk => ?_)
      replace hf := hk
      clear hk
      exact r_areturn rfl (Or.inl ⟨_, rfl⟩) dX6_choose_81 rfl ⟨_, rfl, hf⟩
    by_cases hc3 : (v1 : Int32) = 3
    · replace hf := hf.2.2.1 hc3
      refine r_tabIn (tgt := 82) (off := 43) (by rw [hc3]; decide) (by rw [hc3]; decide) (by rw [hc3]; decide) (by decide) dX6_choose_39 ?_
      refine r_aload (j := 4) rfl dX6_choose_82 ?_
      refine r_aload_n (j := 3) rfl rfl dX6_choose_84 ?_
      obtain ⟨b7, hb_b7, hf⟩ := hf
      subst hb_b7
      try unfold C_X6_drawn at hf
      refine r_invSR (As := [aR (some b7), aR (some v3)]) (dz := d) (mz := 0) (sz := 0) rfl wd_5_234 wd_5_235 cf_X6_drawn (Nat.le_refl _) (Nat.zero_le _) (Nat.zero_le _) (cat_ok (Nat.le_of_ble_eq_true rfl)) dX6_choose_85 hf (fun r9 σ8 hk => ?_)
      replace hf := hk
      clear hk
      exact r_areturn rfl (Or.inl ⟨_, rfl⟩) dX6_choose_88 rfl ⟨_, rfl, hf⟩
    by_cases hc4 : (v1 : Int32) = 4
    · replace hf := hf.2.2.2.1 hc4
      refine r_tabIn (tgt := 89) (off := 50) (by rw [hc4]; decide) (by rw [hc4]; decide) (by rw [hc4]; decide) (by decide) dX6_choose_39 ?_
      refine r_aload_n (j := 2) rfl rfl dX6_choose_89 ?_
      refine r_aload_n (j := 3) rfl rfl dX6_choose_90 ?_
      obtain ⟨fs_x10, x10, ha_x10, hv_x10, hf⟩ := hf
      refine r_get (Cn := RX1) (Tt := TX1) (N := 4) (n := 2) rfl uw_X1 (Nat.le_of_ble_eq_true rfl) wd_1_96 ha_x10 hv_x10 dX6_choose_91 ?_
      refine r_aload_n (j := 3) rfl rfl dX6_choose_94 ?_
      try unfold C_X1_next at hf
      obtain ⟨⟨fs_r12, ha_r12⟩, hf⟩ := hf
      refine r_invVI (t := 1) (As := []) (dz := d) (mz := 0) (sz := 0) rfl wd_5_216 wd_4_75 wd_4_76 cf_X1_next (Nat.le_refl _) (Nat.zero_le _) (Nat.zero_le _) (cat_ok (Nat.le_of_ble_eq_true rfl)) rfl rfl ha_r12 dX6_choose_95 hf (fun r12 σ11 hk => ?_)
      replace hf := hk
      clear hk
      try unfold C_X3_firstWinning at hf
      obtain ⟨⟨fs_r14, ha_r14⟩, hf⟩ := hf
      refine r_invVR (t := 3) (As := [aI x10, aI r12]) (dz := d) (mz := 0) (sz := 0) rfl wd_6_2 wd_5_18 wd_5_19 cf_X3_firstWinning (Nat.le_refl _) (Nat.zero_le _) (Nat.zero_le _) (cat_ok (Nat.le_of_ble_eq_true rfl)) rfl rfl ha_r14 dX6_choose_98 hf (fun r14 σ13 hk => ?_)
      replace hf := hk
      clear hk
      refine r_aload (j := 0) rfl dX6_choose_101 ?_
      try unfold C_X6_orElse at hf
      refine r_invSR (As := [aR r14, aR (some b1)]) (dz := d) (mz := 0) (sz := 0) rfl wd_6_3 wd_6_4 cf_X6_orElse (Nat.le_refl _) (Nat.zero_le _) (Nat.zero_le _) (cat_ok (Nat.le_of_ble_eq_true rfl)) dX6_choose_103 hf (fun r16 σ15 hk => ?_)
      replace hf := hk
      clear hk
      exact r_areturn rfl (Or.inl ⟨_, rfl⟩) dX6_choose_106 rfl ⟨_, rfl, hf⟩
    replace hf := hf.2.2.2.2 hc1 hc2 hc3 hc4
    refine r_tabOut (x := v1) (tgt := 107) (tab_out (tab_cons (lo' := 2) (tab_ne hc1 (by decide)) (by decide) (tab_cons (lo' := 3) (tab_ne hc2 (by decide)) (by decide) (tab_cons (lo' := 4) (tab_ne hc3 (by decide)) (by decide) (tab_cons (lo' := 5) (tab_ne hc4 (by decide)) (by decide) (tab_nil (by decide))))))) (by decide) dX6_choose_39 ?_
    refine r_aload (j := 0) rfl dX6_choose_107 ?_
    exact r_areturn rfl (Or.inl ⟨_, rfl⟩) dX6_choose_109 rfl ⟨_, rfl, hf⟩
  · replace hf := hf.2 hc
    subst hc
    refine r_null dX6_choose_36 ?_
    exact r_areturn rfl (Or.inl ⟨_, rfl⟩) dX6_choose_37 rfl ⟨_, rfl, hf⟩
def F_X6_choose (l : Launch) (G : GG) (d : Nat) (v0 : Nat) (v1 : Int32) (v2 : Nat) (v3 : Nat) (σ : Hp) (K : Option Nat → Hp → Prop) : Prop :=
  fR σ v2 3 0 fun x17 =>
  (∀ b18, x17 = some b18 →
    fI σ v3 1 2 fun x19 =>
    C_X1_next l G d v3 σ fun r21 σ20 =>
    C_X8_thatMay l G d b18 x19 r21 0 σ20 fun r23 σ22 =>
    F_X6_choose_29 l G d v1 v2 v3 (some b18) r23 σ22 K) ∧
  (x17 = none →
    F_X6_choose_29 l G d v1 v2 v3 none none σ K)
set_option maxRecDepth 100000 in
set_option maxHeartbeats 4000000 in
theorem b_X6_choose_0 {l : Launch} {G : GG} {d : Nat} {v0 : Nat} {v1 : Int32} {v2 : Nat} {v3 : Nat} {σ : Hp} {K : Option Nat → Hp → Prop} (hf : F_X6_choose l G d v0 v1 v2 v3 σ K) : Wd l G (d + 1) "CoinsLaid$Players" yX6_choose cX6_choose 6 (some (FieldType.object "CoinsLaid$Lay")) 0 [(0, aR (some v0)), (1, aI v1), (2, aR (some v2)), (3, aR (some v3))] [] σ 0 0 (xM (QR K)) := by
  unfold F_X6_choose at hf
  refine r_aload_n (j := 2) rfl rfl dX6_choose_0 ?_
  obtain ⟨fs_x17, x17, ha_x17, hv_x17, hf⟩ := hf
  refine r_get (Cn := RX3) (Tt := TX3) (N := 11) (n := 0) rfl uw_X3 (Nat.le_of_ble_eq_true rfl) wd_1_46 ha_x17 hv_x17 dX6_choose_1 ?_
  refine r_astore (L' := [(4, aR x17), (0, aR (some v0)), (1, aI v1), (2, aR (some v2)), (3, aR (some v3))]) rfl (Nat.le_of_ble_eq_true rfl) dX6_choose_4 ?_
  refine r_aload (j := 0) rfl dX6_choose_6 ?_
  refine r_ifnonnull (o := x17) (tgt := 15) (by decide) dX6_choose_8 (fun b18 hc => ?_) (fun hc => ?_)
  · replace hf := hf.1 b18 hc
    subst hc
    refine r_aload (j := 0) rfl dX6_choose_15 ?_
    refine r_aload_n (j := 4) rfl rfl dX6_choose_17 ?_
    obtain ⟨fs_x19, x19, ha_x19, hv_x19, hf⟩ := hf
    refine r_get (Cn := RX1) (Tt := TX1) (N := 4) (n := 2) rfl uw_X1 (Nat.le_of_ble_eq_true rfl) wd_1_96 ha_x19 hv_x19 dX6_choose_18 ?_
    refine r_aload_n (j := 4) rfl rfl dX6_choose_21 ?_
    try unfold C_X1_next at hf
    obtain ⟨⟨fs_r21, ha_r21⟩, hf⟩ := hf
    refine r_invVI (t := 1) (As := []) (dz := d) (mz := 0) (sz := 0) rfl wd_5_216 wd_4_75 wd_4_76 cf_X1_next (Nat.le_refl _) (Nat.zero_le _) (Nat.zero_le _) (cat_ok (Nat.le_of_ble_eq_true rfl)) rfl rfl ha_r21 dX6_choose_22 hf (fun r21 σ20 hk => ?_)
    replace hf := hk
    clear hk
    refine r_iconst (v := 0) (by decide) dX6_choose_25 ?_
    try unfold C_X8_thatMay at hf
    obtain ⟨⟨fs_r23, ha_r23⟩, hf⟩ := hf
    refine r_invVR (t := 8) (As := [aI x19, aI r21, aI 0]) (dz := d) (mz := 0) (sz := 0) rfl wd_5_217 wd_4_186 wd_4_187 cf_X8_thatMay (Nat.le_refl _) (Nat.zero_le _) (Nat.zero_le _) (cat_ok (Nat.le_of_ble_eq_true rfl)) rfl rfl ha_r23 dX6_choose_26 hf (fun r23 σ22 hk => ?_)
    replace hf := hk
    clear hk
    exact r_sub [2, 3, 4, 0] rfl (b_X6_choose_29 hf)
  · replace hf := hf.2 hc
    subst hc
    refine r_null dX6_choose_11 ?_
    refine r_goto (tgt := 29) (by decide) dX6_choose_12 ?_
    exact r_sub [2, 3, 4, 0] rfl (b_X6_choose_29 hf)
theorem m_X6_choose {l : Launch} {G : GG} {d : Nat} {v0 : Nat} {v1 : Int32} {v2 : Nat} {v3 : Nat} {σ : Hp} {K : Option Nat → Hp → Prop} (hr : rv σ v0 6) (hf : F_X6_choose l G d v0 v1 v2 v3 σ K) : C_X6_choose l G (d + 1) v0 v1 v2 v3 σ K := ⟨hr, Sp.of (by decide) (Nat.le_of_ble_eq_true rfl) (b_X6_choose_0 hf) rfl⟩
def F_X6_barest_86 (l : Launch) (G : GG) (d : Nat) (X18 : Nat → Nat → Option Nat → Int32 → Nat → Int32 → Int32 → Hp → Prop) (v0 : Nat) (v1 : Nat) (v2 : Option Nat) (v3 : Int32) (v4 : Nat) (v5 : Int32) (v6 : Int32) (σ : Hp) (K : Option Nat → Hp → Prop) : Prop :=
  X18 v0 v1 v2 v3 v4 v5 (v6 + 1) σ
set_option maxRecDepth 100000 in
set_option maxHeartbeats 4000000 in
theorem b_X6_barest_86 {l : Launch} {G : GG} {d : Nat} {X18 : Nat → Nat → Option Nat → Int32 → Nat → Int32 → Int32 → Hp → Prop} {v0 : Nat} {v1 : Nat} {v2 : Option Nat} {v3 : Int32} {v4 : Nat} {v5 : Int32} {v6 : Int32} {σ : Hp} {K : Option Nat → Hp → Prop} (hX18 : ∀ v0 v1 v2 v3 v4 v5 v6 σ, X18 v0 v1 v2 v3 v4 v5 v6 σ → Wd l G (d + 1) "CoinsLaid$Players" yX6_barest cX6_barest 9 (some (FieldType.object "CoinsLaid$Lay")) 18 [(0, aR (some v0)), (1, aR (some v1)), (2, aR v2), (3, aI v3), (4, aR (some v4)), (5, aI v5), (6, aI v6)] [] σ 0 0 (xM (QR K))) (hf : F_X6_barest_86 l G d X18 v0 v1 v2 v3 v4 v5 v6 σ K) : Wd l G (d + 1) "CoinsLaid$Players" yX6_barest cX6_barest 9 (some (FieldType.object "CoinsLaid$Lay")) 86 [(0, aR (some v0)), (1, aR (some v1)), (2, aR v2), (3, aI v3), (4, aR (some v4)), (5, aI v5), (6, aI v6)] [] σ 0 0 (xM (QR K)) := by
  unfold F_X6_barest_86 at hf
  refine r_iinc (j := 6) (w := (v6 + 1)) (L' := [(6, aI (v6 + 1)), (0, aR (some v0)), (1, aR (some v1)), (2, aR v2), (3, aI v3), (4, aR (some v4)), (5, aI v5)]) rfl (by rfl) rfl (Nat.le_of_ble_eq_true rfl) dX6_barest_86 ?_
  refine r_goto (tgt := 18) (by decide) dX6_barest_89 ?_
  exact r_sub [1, 2, 3, 4, 5, 6, 0] rfl (hX18 _ _ _ _ _ _ _ _ hf)
def F_X6_barest_80 (l : Launch) (G : GG) (d : Nat) (X18 : Nat → Nat → Option Nat → Int32 → Nat → Int32 → Int32 → Hp → Prop) (v0 : Nat) (v1 : Nat) (v4 : Nat) (v5 : Int32) (v6 : Int32) (v7 : Nat) (v8 : Int32) (σ : Hp) (K : Option Nat → Hp → Prop) : Prop :=
  F_X6_barest_86 l G d X18 v0 v1 (some v7) v8 v4 v5 v6 σ K
set_option maxRecDepth 100000 in
set_option maxHeartbeats 4000000 in
theorem b_X6_barest_80 {l : Launch} {G : GG} {d : Nat} {X18 : Nat → Nat → Option Nat → Int32 → Nat → Int32 → Int32 → Hp → Prop} {v0 : Nat} {v1 : Nat} {v4 : Nat} {v5 : Int32} {v6 : Int32} {v7 : Nat} {v8 : Int32} {σ : Hp} {K : Option Nat → Hp → Prop} (hX18 : ∀ v0 v1 v2 v3 v4 v5 v6 σ, X18 v0 v1 v2 v3 v4 v5 v6 σ → Wd l G (d + 1) "CoinsLaid$Players" yX6_barest cX6_barest 9 (some (FieldType.object "CoinsLaid$Lay")) 18 [(0, aR (some v0)), (1, aR (some v1)), (2, aR v2), (3, aI v3), (4, aR (some v4)), (5, aI v5), (6, aI v6)] [] σ 0 0 (xM (QR K))) (hf : F_X6_barest_80 l G d X18 v0 v1 v4 v5 v6 v7 v8 σ K) : Wd l G (d + 1) "CoinsLaid$Players" yX6_barest cX6_barest 9 (some (FieldType.object "CoinsLaid$Lay")) 80 [(0, aR (some v0)), (1, aR (some v1)), (4, aR (some v4)), (5, aI v5), (6, aI v6), (7, aR (some v7)), (8, aI v8)] [] σ 0 0 (xM (QR K)) := by
  unfold F_X6_barest_80 at hf
  refine r_aload (j := 5) rfl dX6_barest_80 ?_
  refine r_astore_n (L' := [(2, aR (some v7)), (0, aR (some v0)), (1, aR (some v1)), (4, aR (some v4)), (5, aI v5), (6, aI v6), (7, aR (some v7)), (8, aI v8)]) rfl rfl (Nat.le_of_ble_eq_true rfl) dX6_barest_82 ?_
  refine r_iload (j := 7) rfl dX6_barest_83 ?_
  refine r_istore_n (L' := [(3, aI v8), (2, aR (some v7)), (0, aR (some v0)), (1, aR (some v1)), (4, aR (some v4)), (5, aI v5), (6, aI v6), (7, aR (some v7)), (8, aI v8)]) rfl rfl (Nat.le_of_ble_eq_true rfl) dX6_barest_85 ?_
  exact r_sub [2, 3, 1, 0, 4, 5, 6] rfl (b_X6_barest_86 hX18 hf)
def F_X6_barest_18 (l : Launch) (G : GG) (d : Nat) (X18 : Nat → Nat → Option Nat → Int32 → Nat → Int32 → Int32 → Hp → Prop) (v0 : Nat) (v1 : Nat) (v2 : Option Nat) (v3 : Int32) (v4 : Nat) (v5 : Int32) (v6 : Int32) (σ : Hp) (K : Option Nat → Hp → Prop) : Prop :=
  ((v5 : Int32) ≤ (v6 : Int32) →
    K v2 σ) ∧
  (¬ (v5 : Int32) ≤ (v6 : Int32) →
    gN 3 σ v4 v6 fun x1 =>
    fI σ v1 1 2 fun x2 =>
    C_X1_next l G d v1 σ fun r4 σ3 =>
    C_X2_mayBe l G d x1 x2 r4 σ3 fun r6 σ5 =>
    (r6 = false →
      F_X6_barest_86 l G d X18 v0 v1 v2 v3 v4 v5 v6 σ5 K) ∧
    (r6 = true →
      fI σ5 v1 1 2 fun x7 =>
      fI σ5 x1 2 6 fun x8 =>
      C_X1_next l G d v1 σ5 fun r10 σ9 =>
      C_X8_countThatMay l G d v0 (x7 ||| x8) (1 - r10) σ9 fun r12 σ11 =>
      (v2 = none →
        F_X6_barest_80 l G d X18 v0 v1 v4 v5 v6 x1 r12 σ11 K) ∧
      (∀ b13, v2 = some b13 →
        ((v3 : Int32) ≤ (r12 : Int32) →
          F_X6_barest_86 l G d X18 v0 v1 (some b13) v3 v4 v5 v6 σ11 K) ∧
        (¬ (v3 : Int32) ≤ (r12 : Int32) →
          F_X6_barest_80 l G d X18 v0 v1 v4 v5 v6 x1 r12 σ11 K))))
set_option maxRecDepth 100000 in
set_option maxHeartbeats 4000000 in
theorem b_X6_barest_18 {l : Launch} {G : GG} {d : Nat} {X18 : Nat → Nat → Option Nat → Int32 → Nat → Int32 → Int32 → Hp → Prop} {v0 : Nat} {v1 : Nat} {v2 : Option Nat} {v3 : Int32} {v4 : Nat} {v5 : Int32} {v6 : Int32} {σ : Hp} {K : Option Nat → Hp → Prop} (hX18 : ∀ v0 v1 v2 v3 v4 v5 v6 σ, X18 v0 v1 v2 v3 v4 v5 v6 σ → Wd l G (d + 1) "CoinsLaid$Players" yX6_barest cX6_barest 9 (some (FieldType.object "CoinsLaid$Lay")) 18 [(0, aR (some v0)), (1, aR (some v1)), (2, aR v2), (3, aI v3), (4, aR (some v4)), (5, aI v5), (6, aI v6)] [] σ 0 0 (xM (QR K))) (hf : F_X6_barest_18 l G d X18 v0 v1 v2 v3 v4 v5 v6 σ K) : Wd l G (d + 1) "CoinsLaid$Players" yX6_barest cX6_barest 9 (some (FieldType.object "CoinsLaid$Lay")) 18 [(0, aR (some v0)), (1, aR (some v1)), (2, aR v2), (3, aI v3), (4, aR (some v4)), (5, aI v5), (6, aI v6)] [] σ 0 0 (xM (QR K)) := by
  unfold F_X6_barest_18 at hf
  refine r_iload (j := 6) rfl dX6_barest_18 ?_
  refine r_iload (j := 5) rfl dX6_barest_20 ?_
  refine r_icmpge (x := v6) (y := v5) (tgt := 92) (by decide) dX6_barest_22 (fun hc => ?_) (fun hc => ?_)
  · replace hf := hf.1 hc
    refine r_aload_n (j := 2) rfl rfl dX6_barest_92 ?_
    exact r_areturn rfl (Or.inl ⟨_, rfl⟩) dX6_barest_93 rfl ⟨_, rfl, hf⟩
  · replace hf := hf.2 hc
    refine r_aload (j := 4) rfl dX6_barest_25 ?_
    refine r_iload (j := 6) rfl dX6_barest_27 ?_
    obtain ⟨N_x1, f_x1, x1, ha_x1, hi_x1, hv_x1, hf⟩ := hf
    refine r_aald3 ha_x1 hi_x1 dX6_barest_29 ?_
    rw [hv_x1]
    refine r_astore (L' := [(7, aR (some x1)), (0, aR (some v0)), (1, aR (some v1)), (2, aR v2), (3, aI v3), (4, aR (some v4)), (5, aI v5), (6, aI v6)]) rfl (Nat.le_of_ble_eq_true rfl) dX6_barest_30 ?_
    refine r_aload (j := 0) rfl dX6_barest_32 ?_
    refine r_aload_n (j := 2) rfl rfl dX6_barest_34 ?_
    obtain ⟨fs_x2, x2, ha_x2, hv_x2, hf⟩ := hf
    refine r_get (Cn := RX1) (Tt := TX1) (N := 4) (n := 2) rfl uw_X1 (Nat.le_of_ble_eq_true rfl) wd_1_96 ha_x2 hv_x2 dX6_barest_35 ?_
    refine r_aload_n (j := 2) rfl rfl dX6_barest_38 ?_
    try unfold C_X1_next at hf
    obtain ⟨⟨fs_r4, ha_r4⟩, hf⟩ := hf
    refine r_invVI (t := 1) (As := []) (dz := d) (mz := 0) (sz := 0) rfl wd_5_216 wd_4_75 wd_4_76 cf_X1_next (Nat.le_refl _) (Nat.zero_le _) (Nat.zero_le _) (cat_ok (Nat.le_of_ble_eq_true rfl)) rfl rfl ha_r4 dX6_barest_39 hf (fun r4 σ3 hk => ?_)
    replace hf := hk
    clear hk
    try unfold C_X2_mayBe at hf
    obtain ⟨⟨fs_r6, ha_r6⟩, hf⟩ := hf
    refine r_invVZ (t := 2) (As := [aI x2, aI r4]) (dz := d) (mz := 0) (sz := 0) rfl wd_5_221 wd_4_79 wd_4_80 cf_X2_mayBe (Nat.le_refl _) (Nat.zero_le _) (Nat.zero_le _) (cat_ok (Nat.le_of_ble_eq_true rfl)) rfl rfl ha_r6 dX6_barest_42 hf (fun r6 σ5 hk => ?_)
    replace hf := hk
    clear hk
    refine r_ifeqZ (b := r6) (tgt := 86) (by decide) dX6_barest_45 (fun hc => ?_) (fun hc => ?_)
    · replace hf := hf.1 hc
      exact r_sub [1, 2, 3, 4, 5, 6, 7] rfl (b_X6_barest_86 hX18 hf)
    · replace hf := hf.2 hc
      refine r_aload_n (j := 1) rfl rfl dX6_barest_48 ?_
      refine r_aload_n (j := 2) rfl rfl dX6_barest_49 ?_
      obtain ⟨fs_x7, x7, ha_x7, hv_x7, hf⟩ := hf
      refine r_get (Cn := RX1) (Tt := TX1) (N := 4) (n := 2) rfl uw_X1 (Nat.le_of_ble_eq_true rfl) wd_1_96 ha_x7 hv_x7 dX6_barest_50 ?_
      refine r_aload (j := 0) rfl dX6_barest_53 ?_
      obtain ⟨fs_x8, x8, ha_x8, hv_x8, hf⟩ := hf
      refine r_get (Cn := RX2) (Tt := TX2) (N := 9) (n := 6) rfl uw_X2 (Nat.le_of_ble_eq_true rfl) wd_4_29 ha_x8 hv_x8 dX6_barest_55 ?_
      refine r_ior (x := x7) (y := x8) dX6_barest_58 ?_
      refine r_iconst (v := 1) (by decide) dX6_barest_59 ?_
      refine r_aload_n (j := 2) rfl rfl dX6_barest_60 ?_
      try unfold C_X1_next at hf
      obtain ⟨⟨fs_r10, ha_r10⟩, hf⟩ := hf
      refine r_invVI (t := 1) (As := []) (dz := d) (mz := 0) (sz := 0) rfl wd_5_216 wd_4_75 wd_4_76 cf_X1_next (Nat.le_refl _) (Nat.zero_le _) (Nat.zero_le _) (cat_ok (Nat.le_of_ble_eq_true rfl)) rfl rfl ha_r10 dX6_barest_61 hf (fun r10 σ9 hk => ?_)
      replace hf := hk
      clear hk
      refine r_isub (x := 1) (y := r10) dX6_barest_64 ?_
      try unfold C_X8_countThatMay at hf
      obtain ⟨⟨fs_r12, ha_r12⟩, hf⟩ := hf
      refine r_invVI (t := 8) (As := [aI (x7 ||| x8), aI (1 - r10)]) (dz := d) (mz := 0) (sz := 0) rfl wd_5_222 wd_4_177 wd_4_178 cf_X8_countThatMay (Nat.le_refl _) (Nat.zero_le _) (Nat.zero_le _) (cat_ok (Nat.le_of_ble_eq_true rfl)) rfl rfl ha_r12 dX6_barest_65 hf (fun r12 σ11 hk => ?_)
      replace hf := hk
      clear hk
      refine r_istore (L' := [(8, aI r12), (7, aR (some x1)), (0, aR (some v0)), (1, aR (some v1)), (2, aR v2), (3, aI v3), (4, aR (some v4)), (5, aI v5), (6, aI v6)]) rfl (Nat.le_of_ble_eq_true rfl) dX6_barest_68 ?_
      refine r_aload_n (j := 4) rfl rfl dX6_barest_70 ?_
      refine r_ifnull (o := v2) (tgt := 80) (by decide) dX6_barest_71 (fun hc => ?_) (fun b13 hc => ?_)
      · replace hf := hf.1 hc
        subst hc
        exact r_sub [2, 3, 6, 7, 8, 1, 0] rfl (b_X6_barest_80 hX18 hf)
      · replace hf := hf.2 b13 hc
        subst hc
        refine r_iload (j := 0) rfl dX6_barest_74 ?_
        refine r_iload_n (j := 5) rfl rfl dX6_barest_76 ?_
        refine r_icmpge (x := r12) (y := v3) (tgt := 86) (by decide) dX6_barest_77 (fun hc => ?_) (fun hc => ?_)
        · replace hf := hf.1 hc
          exact r_sub [2, 3, 4, 5, 6, 7, 8] rfl (b_X6_barest_86 hX18 hf)
        · replace hf := hf.2 hc
          exact r_sub [2, 3, 6, 7, 8, 1, 0] rfl (b_X6_barest_80 hX18 hf)
def Z_X6_barest_18 (l : Launch) (G : GG) (d : Nat) (K : Option Nat → Hp → Prop) : Nat → Nat → Nat → Option Nat → Int32 → Nat → Int32 → Int32 → Hp → Prop
  | 0 => fun _ _ _ _ _ _ _ _ => False
  | n + 1 => fun v0 v1 v2 v3 v4 v5 v6 σ => F_X6_barest_18 l G d (Z_X6_barest_18 l G d K n) v0 v1 v2 v3 v4 v5 v6 σ K
theorem z_X6_barest_18 {l : Launch} {G : GG} {d : Nat} {K : Option Nat → Hp → Prop} : ∀ (n : Nat) v0 v1 v2 v3 v4 v5 v6 σ, Z_X6_barest_18 l G d K n v0 v1 v2 v3 v4 v5 v6 σ → Wd l G (d + 1) "CoinsLaid$Players" yX6_barest cX6_barest 9 (some (FieldType.object "CoinsLaid$Lay")) 18 [(0, aR (some v0)), (1, aR (some v1)), (2, aR v2), (3, aI v3), (4, aR (some v4)), (5, aI v5), (6, aI v6)] [] σ 0 0 (xM (QR K)) := by
  intro n
  induction n with
  | zero => intro v0 v1 v2 v3 v4 v5 v6 σ hf; exact hf.elim
  | succ n ih => intro v0 v1 v2 v3 v4 v5 v6 σ hf; exact b_X6_barest_18 ih hf
def F_X6_barest (l : Launch) (G : GG) (d : Nat) (v0 : Nat) (v1 : Nat) (σ : Hp) (K : Option Nat → Hp → Prop) : Prop :=
  fN σ v0 8 8 fun x14 =>
  aL σ x14 fun x15 =>
  ∃ n, Z_X6_barest_18 l G d K n v0 v1 none 0 x14 x15 0 σ
set_option maxRecDepth 100000 in
set_option maxHeartbeats 4000000 in
theorem b_X6_barest_0 {l : Launch} {G : GG} {d : Nat} {v0 : Nat} {v1 : Nat} {σ : Hp} {K : Option Nat → Hp → Prop} (hf : F_X6_barest l G d v0 v1 σ K) : Wd l G (d + 1) "CoinsLaid$Players" yX6_barest cX6_barest 9 (some (FieldType.object "CoinsLaid$Lay")) 0 [(0, aR (some v0)), (1, aR (some v1))] [] σ 0 0 (xM (QR K)) := by
  unfold F_X6_barest at hf
  refine r_null dX6_barest_0 ?_
  refine r_astore_n (L' := [(2, aR none), (0, aR (some v0)), (1, aR (some v1))]) rfl rfl (Nat.le_of_ble_eq_true rfl) dX6_barest_1 ?_
  refine r_iconst (v := 0) (by decide) dX6_barest_2 ?_
  refine r_istore_n (L' := [(3, aI 0), (2, aR none), (0, aR (some v0)), (1, aR (some v1))]) rfl rfl (Nat.le_of_ble_eq_true rfl) dX6_barest_3 ?_
  refine r_aload_n (j := 2) rfl rfl dX6_barest_4 ?_
  obtain ⟨fs_x14, x14, ha_x14, hv_x14, hf⟩ := hf
  refine r_get (Cn := RX8) (Tt := TX8) (N := 9) (n := 8) rfl uw_X8 (Nat.le_of_ble_eq_true rfl) wd_2_81 ha_x14 hv_x14 dX6_barest_5 ?_
  refine r_astore (L' := [(4, aR (some x14)), (3, aI 0), (2, aR none), (0, aR (some v0)), (1, aR (some v1))]) rfl (Nat.le_of_ble_eq_true rfl) dX6_barest_8 ?_
  refine r_aload (j := 0) rfl dX6_barest_10 ?_
  obtain ⟨t_x15, N_x15, f_x15, ha_x15, hf⟩ := hf
  refine r_alen ha_x15 dX6_barest_12 ?_
  generalize nI N_x15 = x15 at hf ⊢
  refine r_istore (L' := [(5, aI x15), (4, aR (some x14)), (3, aI 0), (2, aR none), (0, aR (some v0)), (1, aR (some v1))]) rfl (Nat.le_of_ble_eq_true rfl) dX6_barest_13 ?_
  refine r_iconst (v := 0) (by decide) dX6_barest_15 ?_
  refine r_istore (L' := [(6, aI 0), (5, aI x15), (4, aR (some x14)), (3, aI 0), (2, aR none), (0, aR (some v0)), (1, aR (some v1))]) rfl (Nat.le_of_ble_eq_true rfl) dX6_barest_16 ?_
  obtain ⟨n, hf⟩ := hf
  exact r_sub [5, 6, 4, 3, 2, 1, 0] rfl (z_X6_barest_18 n _ _ _ _ _ _ _ _ hf)
theorem m_X6_barest {l : Launch} {G : GG} {d : Nat} {v0 : Nat} {v1 : Nat} {σ : Hp} {K : Option Nat → Hp → Prop} (hf : F_X6_barest l G d v0 v1 σ K) : C_X6_barest l G (d + 1) v0 v1 σ K := Sp.of (by decide) (Nat.le_of_ble_eq_true rfl) (b_X6_barest_0 hf) rfl
def F_X6_acrossLatest_42 (l : Launch) (G : GG) (d : Nat) (s0 : Option Nat) (σ : Hp) (K : Option Nat → Hp → Prop) : Prop :=
  K s0 σ
set_option maxRecDepth 100000 in
set_option maxHeartbeats 4000000 in
theorem b_X6_acrossLatest_42 {l : Launch} {G : GG} {d : Nat} {s0 : Option Nat} {σ : Hp} {K : Option Nat → Hp → Prop} (hf : F_X6_acrossLatest_42 l G d s0 σ K) : Wd l G (d + 1) "CoinsLaid$Players" yX6_acrossLatest cX6_acrossLatest 4 (some (FieldType.object "CoinsLaid$Lay")) 42 [] [aR s0] σ 0 0 (xM (QR K)) := by
  unfold F_X6_acrossLatest_42 at hf
  exact r_areturn rfl (Or.inl ⟨_, rfl⟩) dX6_acrossLatest_42 rfl ⟨_, rfl, hf⟩
def F_X6_acrossLatest_41 (l : Launch) (G : GG) (d : Nat) (v1 : Nat) (σ : Hp) (K : Option Nat → Hp → Prop) : Prop :=
  F_X6_acrossLatest_42 l G d (some v1) σ K
set_option maxRecDepth 100000 in
set_option maxHeartbeats 4000000 in
theorem b_X6_acrossLatest_41 {l : Launch} {G : GG} {d : Nat} {v1 : Nat} {σ : Hp} {K : Option Nat → Hp → Prop} (hf : F_X6_acrossLatest_41 l G d v1 σ K) : Wd l G (d + 1) "CoinsLaid$Players" yX6_acrossLatest cX6_acrossLatest 4 (some (FieldType.object "CoinsLaid$Lay")) 41 [(1, aR (some v1))] [] σ 0 0 (xM (QR K)) := by
  unfold F_X6_acrossLatest_41 at hf
  refine r_aload_n (j := 0) rfl rfl dX6_acrossLatest_41 ?_
  exact r_sub [] rfl (b_X6_acrossLatest_42 hf)
def F_X6_acrossLatest_17 (l : Launch) (G : GG) (d : Nat) (v0 : Nat) (v1 : Nat) (s0 : Option Nat) (σ : Hp) (K : Option Nat → Hp → Prop) : Prop :=
  (s0 = none →
    F_X6_acrossLatest_41 l G d v1 σ K) ∧
  (∀ b1, s0 = some b1 →
    fI σ v0 1 2 fun x2 =>
    C_X1_next l G d v0 σ fun r4 σ3 =>
    C_X2_mayBe l G d b1 x2 r4 σ3 fun r6 σ5 =>
    (r6 = false →
      F_X6_acrossLatest_41 l G d v1 σ5 K) ∧
    (r6 = true →
      F_X6_acrossLatest_42 l G d (some b1) σ5 K))
set_option maxRecDepth 100000 in
set_option maxHeartbeats 4000000 in
theorem b_X6_acrossLatest_17 {l : Launch} {G : GG} {d : Nat} {v0 : Nat} {v1 : Nat} {s0 : Option Nat} {σ : Hp} {K : Option Nat → Hp → Prop} (hf : F_X6_acrossLatest_17 l G d v0 v1 s0 σ K) : Wd l G (d + 1) "CoinsLaid$Players" yX6_acrossLatest cX6_acrossLatest 4 (some (FieldType.object "CoinsLaid$Lay")) 17 [(0, aR (some v0)), (1, aR (some v1))] [aR s0] σ 0 0 (xM (QR K)) := by
  unfold F_X6_acrossLatest_17 at hf
  refine r_astore_n (L' := [(3, aR s0), (0, aR (some v0)), (1, aR (some v1))]) rfl rfl (Nat.le_of_ble_eq_true rfl) dX6_acrossLatest_17 ?_
  refine r_aload_n (j := 0) rfl rfl dX6_acrossLatest_18 ?_
  refine r_ifnull (o := s0) (tgt := 41) (by decide) dX6_acrossLatest_19 (fun hc => ?_) (fun b1 hc => ?_)
  · replace hf := hf.1 hc
    subst hc
    exact r_sub [2] rfl (b_X6_acrossLatest_41 hf)
  · replace hf := hf.2 b1 hc
    subst hc
    refine r_aload_n (j := 0) rfl rfl dX6_acrossLatest_22 ?_
    refine r_aload_n (j := 1) rfl rfl dX6_acrossLatest_23 ?_
    obtain ⟨fs_x2, x2, ha_x2, hv_x2, hf⟩ := hf
    refine r_get (Cn := RX1) (Tt := TX1) (N := 4) (n := 2) rfl uw_X1 (Nat.le_of_ble_eq_true rfl) wd_1_96 ha_x2 hv_x2 dX6_acrossLatest_24 ?_
    refine r_aload_n (j := 1) rfl rfl dX6_acrossLatest_27 ?_
    try unfold C_X1_next at hf
    obtain ⟨⟨fs_r4, ha_r4⟩, hf⟩ := hf
    refine r_invVI (t := 1) (As := []) (dz := d) (mz := 0) (sz := 0) rfl wd_5_216 wd_4_75 wd_4_76 cf_X1_next (Nat.le_refl _) (Nat.zero_le _) (Nat.zero_le _) (cat_ok (Nat.le_of_ble_eq_true rfl)) rfl rfl ha_r4 dX6_acrossLatest_28 hf (fun r4 σ3 hk => ?_)
    replace hf := hk
    clear hk
    try unfold C_X2_mayBe at hf
    obtain ⟨⟨fs_r6, ha_r6⟩, hf⟩ := hf
    refine r_invVZ (t := 2) (As := [aI x2, aI r4]) (dz := d) (mz := 0) (sz := 0) rfl wd_5_221 wd_4_79 wd_4_80 cf_X2_mayBe (Nat.le_refl _) (Nat.zero_le _) (Nat.zero_le _) (cat_ok (Nat.le_of_ble_eq_true rfl)) rfl rfl ha_r6 dX6_acrossLatest_31 hf (fun r6 σ5 hk => ?_)
    replace hf := hk
    clear hk
    refine r_ifeqZ (b := r6) (tgt := 41) (by decide) dX6_acrossLatest_34 (fun hc => ?_) (fun hc => ?_)
    · replace hf := hf.1 hc
      exact r_sub [2] rfl (b_X6_acrossLatest_41 hf)
    · replace hf := hf.2 hc
      refine r_aload_n (j := 0) rfl rfl dX6_acrossLatest_37 ?_
      refine r_goto (tgt := 42) (by decide) dX6_acrossLatest_38 ?_
      exact r_sub [] rfl (b_X6_acrossLatest_42 hf)
def F_X6_acrossLatest (l : Launch) (G : GG) (d : Nat) (v0 : Nat) (v1 : Nat) (σ : Hp) (K : Option Nat → Hp → Prop) : Prop :=
  C_X1_latest l G d v0 σ fun r8 σ7 =>
  (∀ b9, r8 = some b9 →
    fR σ7 b9 2 8 fun x10 =>
    F_X6_acrossLatest_17 l G d v0 v1 x10 σ7 K) ∧
  (r8 = none →
    F_X6_acrossLatest_17 l G d v0 v1 none σ7 K)
set_option maxRecDepth 100000 in
set_option maxHeartbeats 4000000 in
theorem b_X6_acrossLatest_0 {l : Launch} {G : GG} {d : Nat} {v0 : Nat} {v1 : Nat} {σ : Hp} {K : Option Nat → Hp → Prop} (hf : F_X6_acrossLatest l G d v0 v1 σ K) : Wd l G (d + 1) "CoinsLaid$Players" yX6_acrossLatest cX6_acrossLatest 4 (some (FieldType.object "CoinsLaid$Lay")) 0 [(0, aR (some v0)), (1, aR (some v1))] [] σ 0 0 (xM (QR K)) := by
  unfold F_X6_acrossLatest at hf
  refine r_aload_n (j := 0) rfl rfl dX6_acrossLatest_0 ?_
  try unfold C_X1_latest at hf
  obtain ⟨⟨fs_r8, ha_r8⟩, hf⟩ := hf
  refine r_invVR (t := 1) (As := []) (dz := d) (mz := 0) (sz := 0) rfl wd_5_226 wd_5_227 wd_5_228 cf_X1_latest (Nat.le_refl _) (Nat.zero_le _) (Nat.zero_le _) (cat_ok (Nat.le_of_ble_eq_true rfl)) rfl rfl ha_r8 dX6_acrossLatest_1 hf (fun r8 σ7 hk => ?_)
  replace hf := hk
  clear hk
  refine r_astore_n (L' := [(2, aR r8), (0, aR (some v0)), (1, aR (some v1))]) rfl rfl (Nat.le_of_ble_eq_true rfl) dX6_acrossLatest_4 ?_
  refine r_aload_n (j := 0) rfl rfl dX6_acrossLatest_5 ?_
  refine r_ifnonnull (o := r8) (tgt := 13) (by decide) dX6_acrossLatest_6 (fun b9 hc => ?_) (fun hc => ?_)
  · replace hf := hf.1 b9 hc
    subst hc
    refine r_aload_n (j := 0) rfl rfl dX6_acrossLatest_13 ?_
    obtain ⟨fs_x10, x10, ha_x10, hv_x10, hf⟩ := hf
    refine r_get (Cn := RX2) (Tt := TX2) (N := 9) (n := 8) rfl uw_X2 (Nat.le_of_ble_eq_true rfl) wd_4_35 ha_x10 hv_x10 dX6_acrossLatest_14 ?_
    exact r_sub [1, 2] rfl (b_X6_acrossLatest_17 hf)
  · replace hf := hf.2 hc
    subst hc
    refine r_null dX6_acrossLatest_9 ?_
    refine r_goto (tgt := 17) (by decide) dX6_acrossLatest_10 ?_
    exact r_sub [1, 2] rfl (b_X6_acrossLatest_17 hf)
theorem m_X6_acrossLatest {l : Launch} {G : GG} {d : Nat} {v0 : Nat} {v1 : Nat} {σ : Hp} {K : Option Nat → Hp → Prop} (hf : F_X6_acrossLatest l G d v0 v1 σ K) : C_X6_acrossLatest l G (d + 1) v0 v1 σ K := Sp.of (by decide) (Nat.le_of_ble_eq_true rfl) (b_X6_acrossLatest_0 hf) rfl
def F_X6_drawn_39 (l : Launch) (G : GG) (d : Nat) (s0 : Option Nat) (σ : Hp) (K : Option Nat → Hp → Prop) : Prop :=
  K s0 σ
set_option maxRecDepth 100000 in
set_option maxHeartbeats 4000000 in
theorem b_X6_drawn_39 {l : Launch} {G : GG} {d : Nat} {s0 : Option Nat} {σ : Hp} {K : Option Nat → Hp → Prop} (hf : F_X6_drawn_39 l G d s0 σ K) : Wd l G (d + 1) "CoinsLaid$Players" yX6_drawn cX6_drawn 3 (some (FieldType.object "CoinsLaid$Lay")) 39 [] [aR s0] σ 0 0 (xM (QR K)) := by
  unfold F_X6_drawn_39 at hf
  exact r_areturn rfl (Or.inl ⟨_, rfl⟩) dX6_drawn_39 rfl ⟨_, rfl, hf⟩
def F_X6_drawn (l : Launch) (G : GG) (d : Nat) (v0 : Nat) (v1 : Nat) (σ : Hp) (K : Option Nat → Hp → Prop) : Prop :=
  fI σ v1 1 2 fun x1 =>
  C_X1_next l G d v1 σ fun r3 σ2 =>
  C_X8_countThatMay l G d v0 x1 r3 σ2 fun r5 σ4 =>
  ((r5 : Int32) ≤ 0 →
    F_X6_drawn_39 l G d none σ4 K) ∧
  (¬ (r5 : Int32) ≤ 0 →
    fI σ4 v1 1 2 fun x6 =>
    C_X1_next l G d v1 σ4 fun r8 σ7 =>
    C_X1_draw l G d v1 σ7 fun r10 σ9 =>
    ¬ (r5 : Int32) = 0 ∧
    C_X8_thatMay l G d v0 x6 r8 (r10 - r10 / r5 * r5) σ9 fun r12 σ11 =>
    F_X6_drawn_39 l G d r12 σ11 K)
set_option maxRecDepth 100000 in
set_option maxHeartbeats 4000000 in
theorem b_X6_drawn_0 {l : Launch} {G : GG} {d : Nat} {v0 : Nat} {v1 : Nat} {σ : Hp} {K : Option Nat → Hp → Prop} (hf : F_X6_drawn l G d v0 v1 σ K) : Wd l G (d + 1) "CoinsLaid$Players" yX6_drawn cX6_drawn 3 (some (FieldType.object "CoinsLaid$Lay")) 0 [(0, aR (some v0)), (1, aR (some v1))] [] σ 0 0 (xM (QR K)) := by
  unfold F_X6_drawn at hf
  refine r_aload_n (j := 0) rfl rfl dX6_drawn_0 ?_
  refine r_aload_n (j := 1) rfl rfl dX6_drawn_1 ?_
  obtain ⟨fs_x1, x1, ha_x1, hv_x1, hf⟩ := hf
  refine r_get (Cn := RX1) (Tt := TX1) (N := 4) (n := 2) rfl uw_X1 (Nat.le_of_ble_eq_true rfl) wd_1_96 ha_x1 hv_x1 dX6_drawn_2 ?_
  refine r_aload_n (j := 1) rfl rfl dX6_drawn_5 ?_
  try unfold C_X1_next at hf
  obtain ⟨⟨fs_r3, ha_r3⟩, hf⟩ := hf
  refine r_invVI (t := 1) (As := []) (dz := d) (mz := 0) (sz := 0) rfl wd_5_216 wd_4_75 wd_4_76 cf_X1_next (Nat.le_refl _) (Nat.zero_le _) (Nat.zero_le _) (cat_ok (Nat.le_of_ble_eq_true rfl)) rfl rfl ha_r3 dX6_drawn_6 hf (fun r3 σ2 hk => ?_)
  replace hf := hk
  clear hk
  try unfold C_X8_countThatMay at hf
  obtain ⟨⟨fs_r5, ha_r5⟩, hf⟩ := hf
  refine r_invVI (t := 8) (As := [aI x1, aI r3]) (dz := d) (mz := 0) (sz := 0) rfl wd_5_222 wd_4_177 wd_4_178 cf_X8_countThatMay (Nat.le_refl _) (Nat.zero_le _) (Nat.zero_le _) (cat_ok (Nat.le_of_ble_eq_true rfl)) rfl rfl ha_r5 dX6_drawn_9 hf (fun r5 σ4 hk => ?_)
  replace hf := hk
  clear hk
  refine r_istore_n (L' := [(2, aI r5), (0, aR (some v0)), (1, aR (some v1))]) rfl rfl (Nat.le_of_ble_eq_true rfl) dX6_drawn_12 ?_
  refine r_iload_n (j := 0) rfl rfl dX6_drawn_13 ?_
  refine r_ifle (x := r5) (tgt := 38) (by decide) dX6_drawn_14 (fun hc => ?_) (fun hc => ?_)
  · replace hf := hf.1 hc
    refine r_null dX6_drawn_38 ?_
    exact r_sub [] rfl (b_X6_drawn_39 hf)
  · replace hf := hf.2 hc
    refine r_aload_n (j := 1) rfl rfl dX6_drawn_17 ?_
    refine r_aload_n (j := 2) rfl rfl dX6_drawn_18 ?_
    obtain ⟨fs_x6, x6, ha_x6, hv_x6, hf⟩ := hf
    refine r_get (Cn := RX1) (Tt := TX1) (N := 4) (n := 2) rfl uw_X1 (Nat.le_of_ble_eq_true rfl) wd_1_96 ha_x6 hv_x6 dX6_drawn_19 ?_
    refine r_aload_n (j := 2) rfl rfl dX6_drawn_22 ?_
    try unfold C_X1_next at hf
    obtain ⟨⟨fs_r8, ha_r8⟩, hf⟩ := hf
    refine r_invVI (t := 1) (As := []) (dz := d) (mz := 0) (sz := 0) rfl wd_5_216 wd_4_75 wd_4_76 cf_X1_next (Nat.le_refl _) (Nat.zero_le _) (Nat.zero_le _) (cat_ok (Nat.le_of_ble_eq_true rfl)) rfl rfl ha_r8 dX6_drawn_23 hf (fun r8 σ7 hk => ?_)
    replace hf := hk
    clear hk
    refine r_aload_n (j := 2) rfl rfl dX6_drawn_26 ?_
    try unfold C_X1_draw at hf
    obtain ⟨⟨fs_r10, ha_r10⟩, hf⟩ := hf
    refine r_invVI (t := 1) (As := []) (dz := d) (mz := 0) (sz := 0) rfl wd_5_237 wd_5_238 wd_5_239 cf_X1_draw (Nat.le_refl _) (Nat.zero_le _) (Nat.zero_le _) (cat_ok (Nat.le_of_ble_eq_true rfl)) rfl rfl ha_r10 dX6_drawn_27 hf (fun r10 σ9 hk => ?_)
    replace hf := hk
    clear hk
    refine r_iload_n (j := 0) rfl rfl dX6_drawn_30 ?_
    obtain ⟨hne, hf⟩ := hf
    refine r_irem hne dX6_drawn_31 ?_
    try unfold C_X8_thatMay at hf
    obtain ⟨⟨fs_r12, ha_r12⟩, hf⟩ := hf
    refine r_invVR (t := 8) (As := [aI x6, aI r8, aI (r10 - r10 / r5 * r5)]) (dz := d) (mz := 0) (sz := 0) rfl wd_5_217 wd_4_186 wd_4_187 cf_X8_thatMay (Nat.le_refl _) (Nat.zero_le _) (Nat.zero_le _) (cat_ok (Nat.le_of_ble_eq_true rfl)) rfl rfl ha_r12 dX6_drawn_32 hf (fun r12 σ11 hk => ?_)
    replace hf := hk
    clear hk
    refine r_goto (tgt := 39) (by decide) dX6_drawn_35 ?_
    exact r_sub [] rfl (b_X6_drawn_39 hf)
theorem m_X6_drawn {l : Launch} {G : GG} {d : Nat} {v0 : Nat} {v1 : Nat} {σ : Hp} {K : Option Nat → Hp → Prop} (hf : F_X6_drawn l G d v0 v1 σ K) : C_X6_drawn l G (d + 1) v0 v1 σ K := Sp.of (by decide) (Nat.le_of_ble_eq_true rfl) (b_X6_drawn_0 hf) rfl
def F_X6_orElse_9 (l : Launch) (G : GG) (d : Nat) (s0 : Option Nat) (σ : Hp) (K : Option Nat → Hp → Prop) : Prop :=
  K s0 σ
set_option maxRecDepth 100000 in
set_option maxHeartbeats 4000000 in
theorem b_X6_orElse_9 {l : Launch} {G : GG} {d : Nat} {s0 : Option Nat} {σ : Hp} {K : Option Nat → Hp → Prop} (hf : F_X6_orElse_9 l G d s0 σ K) : Wd l G (d + 1) "CoinsLaid$Players" yX6_orElse cX6_orElse 2 (some (FieldType.object "CoinsLaid$Lay")) 9 [] [aR s0] σ 0 0 (xM (QR K)) := by
  unfold F_X6_orElse_9 at hf
  exact r_areturn rfl (Or.inl ⟨_, rfl⟩) dX6_orElse_9 rfl ⟨_, rfl, hf⟩
def F_X6_orElse (l : Launch) (G : GG) (d : Nat) (v0 : Option Nat) (v1 : Option Nat) (σ : Hp) (K : Option Nat → Hp → Prop) : Prop :=
  (∀ b1, v0 = some b1 →
    F_X6_orElse_9 l G d (some b1) σ K) ∧
  (v0 = none →
    F_X6_orElse_9 l G d v1 σ K)
set_option maxRecDepth 100000 in
set_option maxHeartbeats 4000000 in
theorem b_X6_orElse_0 {l : Launch} {G : GG} {d : Nat} {v0 : Option Nat} {v1 : Option Nat} {σ : Hp} {K : Option Nat → Hp → Prop} (hf : F_X6_orElse l G d v0 v1 σ K) : Wd l G (d + 1) "CoinsLaid$Players" yX6_orElse cX6_orElse 2 (some (FieldType.object "CoinsLaid$Lay")) 0 [(0, aR v0), (1, aR v1)] [] σ 0 0 (xM (QR K)) := by
  unfold F_X6_orElse at hf
  refine r_aload_n (j := 0) rfl rfl dX6_orElse_0 ?_
  refine r_ifnonnull (o := v0) (tgt := 8) (by decide) dX6_orElse_1 (fun b1 hc => ?_) (fun hc => ?_)
  · replace hf := hf.1 b1 hc
    subst hc
    refine r_aload_n (j := 0) rfl rfl dX6_orElse_8 ?_
    exact r_sub [] rfl (b_X6_orElse_9 hf)
  · replace hf := hf.2 hc
    subst hc
    refine r_aload_n (j := 1) rfl rfl dX6_orElse_4 ?_
    refine r_goto (tgt := 9) (by decide) dX6_orElse_5 ?_
    exact r_sub [] rfl (b_X6_orElse_9 hf)
theorem m_X6_orElse {l : Launch} {G : GG} {d : Nat} {v0 : Option Nat} {v1 : Option Nat} {σ : Hp} {K : Option Nat → Hp → Prop} (hf : F_X6_orElse l G d v0 v1 σ K) : C_X6_orElse l G (d + 1) v0 v1 σ K := Sp.of (by decide) (Nat.le_of_ble_eq_true rfl) (b_X6_orElse_0 hf) rfl
