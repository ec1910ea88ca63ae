/-! 16.tell: written by wip/whole/gen.py -/
def F_X9_init (l : Launch) (G : GG) (d : Nat) (v0 : Nat) (v1 : Nat) (v2 : Nat) (σ : Hp) (bc bs : Nat) (K : Hp → Prop) : Prop :=
  nO σ 8 [aI (bi false), aI (bi false), aI (bi false), aR none, aR none, aI 0, aI 0, aI (bi false), aR none] 9 bc bs fun q1 σ2 =>
  ∃ mz5 sz6, mz5 ≤ (bc - 1) ∧ sz6 ≤ (bs - 9) ∧ C_X8_init l G d mz5 sz6 q1 σ2 fun σ3 =>
  pF σ3 v0 9 2 (aR (some q1)) fun σ7 =>
  pF σ7 v0 9 0 (aR (some v1)) fun σ9 =>
  pF σ9 v0 9 1 (aR (some v2)) fun σ11 =>
  K σ11
set_option maxRecDepth 100000 in
set_option maxHeartbeats 4000000 in
theorem b_X9_init_0 {l : Launch} {G : GG} {d : Nat} {v0 : Nat} {v1 : Nat} {v2 : Nat} {σ : Hp} {bc bs : Nat} {K : Hp → Prop} (hf : F_X9_init l G d v0 v1 v2 σ bc bs K) : Wd l G (d + 1) "CoinsLaid$Telling" yX9_init cX9_init 3 none 0 [(0, aR (some v0)), (1, aR (some v1)), (2, aR (some v2))] [] σ bc bs (xM (QV K)) := by
  unfold F_X9_init at hf
  refine r_aload_n (j := 0) rfl rfl dX9_init_0 ?_
  refine r_objInit wd_2_20 wd_1_37 wd_1_38 (Nat.le_add_left 1 d) (cat_ok (Nat.le_of_ble_eq_true rfl)) dX9_init_1 ?_
  refine r_aload_n (j := 0) rfl rfl dX9_init_4 ?_
  obtain ⟨hbc, hbs, hf⟩ := hf
  refine r_new (t := 8) (Cn := RX8) (Tt := TX8) (N := 9) (fs := [aI (bi false), aI (bi false), aI (bi false), aR none, aR none, aI 0, aI 0, aI (bi false), aR none]) (ty0 := tyX8) rfl uw_X8 tyX8_ok wd_2_21 wd_2_22 wd_1_10 rfl dfv_X8 hbc hbs dX9_init_5 (fun q1 hq_q1 => ?_)
  replace hf := hf q1 hq_q1
  generalize hset σ q1 (.inl (8, [aI (bi false), aI (bi false), aI (bi false), aR none, aR none, aI 0, aI 0, aI (bi false), aR none])) = σ2 at hf ⊢
  refine r_dup rfl dX9_init_8 ?_
  obtain ⟨mz5, sz6, hbc, hbs, hf⟩ := hf
  try unfold C_X8_init at hf
  refine r_invINU (host := "CoinsLaid") (As := []) (dz := d) (mz := mz5) (sz := sz6) rfl (List.mem_of_getElem? (i := 5) rfl) wd_2_24 rfl rfl cf_X8_init (Nat.le_refl _) hbc hbs (cat_ok (Nat.le_of_ble_eq_true rfl)) dX9_init_9 hf (fun σ3 hk => ?_)
  replace hf := hk
  clear hk
  obtain ⟨fs_x8, ha_x8, hf⟩ := hf
  generalize hσ7 : hset σ3 v0 (.inl (9, fs_x8.set 2 (aR (some q1)))) = σ7 at hf
  refine r_putF (Cn := RX9) (Tt := TX9) (N := 8) (n := 2) (v := aR (some q1)) rfl uw_X9 (Nat.le_of_ble_eq_true rfl) wd_2_104 ha_x8 (ty0 := tyX9) tyX9_ok nmX9 rfl rfl rfl (fo_R _ (some q1)) dX9_init_12 ?_
  rw [hσ7]
  refine r_aload_n (j := 0) rfl rfl dX9_init_15 ?_
  refine r_aload_n (j := 1) rfl rfl dX9_init_16 ?_
  obtain ⟨fs_x10, ha_x10, hf⟩ := hf
  generalize hσ9 : hset σ7 v0 (.inl (9, fs_x10.set 0 (aR (some v1)))) = σ9 at hf
  refine r_putF (Cn := RX9) (Tt := TX9) (N := 8) (n := 0) (v := aR (some v1)) rfl uw_X9 (Nat.le_of_ble_eq_true rfl) wd_2_102 ha_x10 (ty0 := tyX9) tyX9_ok nmX9 rfl rfl rfl (fo_R _ (some v1)) dX9_init_17 ?_
  rw [hσ9]
  refine r_aload_n (j := 0) rfl rfl dX9_init_20 ?_
  refine r_aload_n (j := 2) rfl rfl dX9_init_21 ?_
  obtain ⟨fs_x12, ha_x12, hf⟩ := hf
  generalize hσ11 : hset σ9 v0 (.inl (9, fs_x12.set 1 (aR (some v2)))) = σ11 at hf
  refine r_putF (Cn := RX9) (Tt := TX9) (N := 8) (n := 1) (v := aR (some v2)) rfl uw_X9 (Nat.le_of_ble_eq_true rfl) wd_2_103 ha_x12 (ty0 := tyX9) tyX9_ok nmX9 rfl rfl rfl (fo_R _ (some v2)) dX9_init_22 ?_
  rw [hσ11]
  exact r_return rfl dX9_init_25 rfl ⟨rfl, hf⟩
theorem m_X9_init {l : Launch} {G : GG} {d : Nat} {mc ms : Nat} {v0 : Nat} {v1 : Nat} {v2 : Nat} {σ : Hp} {K : Hp → Prop} (hf : F_X9_init l G d v0 v1 v2 σ mc ms K) : C_X9_init l G (d + 1) mc ms v0 v1 v2 σ K := Sp.of (by decide) (Nat.le_of_ble_eq_true rfl) (b_X9_init_0 hf) rfl
def F_X9_readAll_120 (l : Launch) (G : GG) (d : Nat) (X9 : Nat → Int32 → Hp → Nat → Nat → Prop) (v0 : Nat) (v1 : Int32) (s0 : Bool) (σ : Hp) (bc bs : Nat) (K : Bool → Hp → Prop) : Prop :=
  (s0 = true →
    fN σ v0 9 0 fun x1 =>
    fI σ x1 10 3 fun x2 =>
    (¬ (x2 : Int32) = 0 →
      C_X9_passSign l G d v0 59 σ fun r4 σ3 =>
      (r4 = true →
        X9 v0 (v1 + 1) σ3 bc bs) ∧
      (r4 = false →
        K false σ3)) ∧
    ((x2 : Int32) = 0 →
      ∃ mz7 sz8, mz7 ≤ bc ∧ sz8 ≤ bs ∧ C_X9_readEnd l G d mz7 sz8 v0 σ fun r6 σ5 =>
      K r6 σ5)) ∧
  (s0 = false →
    K false σ)
set_option maxRecDepth 100000 in
set_option maxHeartbeats 4000000 in
theorem b_X9_readAll_120 {l : Launch} {G : GG} {d : Nat} {X9 : Nat → Int32 → Hp → Nat → Nat → Prop} {v0 : Nat} {v1 : Int32} {s0 : Bool} {σ : Hp} {bc bs : Nat} {K : Bool → Hp → Prop} (hX9 : ∀ v0 v1 σ bc bs, X9 v0 v1 σ bc bs → Wd l G (d + 1) "CoinsLaid$Telling" yX9_readAll cX9_readAll 3 (some FieldType.boolean) 9 [(0, aR (some v0)), (1, aI v1)] [] σ bc bs (xM (QZ K))) (hf : F_X9_readAll_120 l G d X9 v0 v1 s0 σ bc bs K) : Wd l G (d + 1) "CoinsLaid$Telling" yX9_readAll cX9_readAll 3 (some FieldType.boolean) 120 [(0, aR (some v0)), (1, aI v1)] [aI (bi s0)] σ bc bs (xM (QZ K)) := by
  unfold F_X9_readAll_120 at hf
  refine r_istore_n (L' := [(2, aI (bi s0)), (0, aR (some v0)), (1, aI v1)]) rfl rfl (Nat.le_of_ble_eq_true rfl) dX9_readAll_120 ?_
  refine r_iload_n (j := 0) rfl rfl dX9_readAll_121 ?_
  refine r_ifneZ (b := s0) (tgt := 127) (by decide) dX9_readAll_122 (fun hc => ?_) (fun hc => ?_)
  · replace hf := hf.1 hc
    refine r_aload_n (j := 1) rfl rfl dX9_readAll_127 ?_
    obtain ⟨fs_x1, x1, ha_x1, hv_x1, hf⟩ := hf
    refine r_get (Cn := RX9) (Tt := TX9) (N := 8) (n := 0) rfl uw_X9 (Nat.le_of_ble_eq_true rfl) wd_2_102 ha_x1 hv_x1 dX9_readAll_128 ?_
    obtain ⟨fs_x2, x2, ha_x2, hv_x2, hf⟩ := hf
    refine r_get (Cn := RX10) (Tt := TX10) (N := 5) (n := 3) rfl uw_X10 (Nat.le_of_ble_eq_true rfl) wd_2_4 ha_x2 hv_x2 dX9_readAll_131 ?_
    refine r_ifne (x := x2) (tgt := 142) (by decide) dX9_readAll_134 (fun hc => ?_) (fun hc => ?_)
    · replace hf := hf.1 hc
      refine r_aload_n (j := 1) rfl rfl dX9_readAll_142 ?_
      refine r_bipush (v := 59) (by decide) dX9_readAll_143 ?_
      try unfold C_X9_passSign at hf
      obtain ⟨⟨fs_r4, ha_r4⟩, hf⟩ := hf
      refine r_invVZ (t := 9) (As := [aI 59]) (dz := d) (mz := 0) (sz := 0) rfl wd_3_153 wd_3_155 wd_p_17 cf_X9_passSign (Nat.le_refl _) (Nat.zero_le _) (Nat.zero_le _) (cat_ok (Nat.le_of_ble_eq_true rfl)) rfl rfl ha_r4 dX9_readAll_145 hf (fun r4 σ3 hk => ?_)
      replace hf := hk
      clear hk
      refine r_ifneZ (b := r4) (tgt := 153) (by decide) dX9_readAll_148 (fun hc => ?_) (fun hc => ?_)
      · replace hf := hf.1 hc
        refine r_iinc (j := 2) (w := (v1 + 1)) (L' := [(1, aI (v1 + 1)), (2, aI (bi s0)), (0, aR (some v0))]) rfl (by rfl) rfl (Nat.le_of_ble_eq_true rfl) dX9_readAll_153 ?_
        refine r_goto (tgt := 9) (by decide) dX9_readAll_156 ?_
        exact r_sub [2, 0] rfl (hX9 _ _ _ _ _ hf)
      · replace hf := hf.2 hc
        refine r_iconst (v := 0) (by decide) dX9_readAll_151 ?_
        exact r_zreturn (b := false) rfl dX9_readAll_152 rfl ⟨_, rfl, hf⟩
    · replace hf := hf.2 hc
      refine r_aload_n (j := 1) rfl rfl dX9_readAll_137 ?_
      obtain ⟨mz7, sz8, hbc, hbs, hf⟩ := hf
      try unfold C_X9_readEnd at hf
      obtain ⟨⟨fs_r6, ha_r6⟩, hf⟩ := hf
      refine r_invVZ (t := 9) (As := []) (dz := d) (mz := mz7) (sz := sz8) rfl wd_4_90 wd_4_92 wd_p_28 cf_X9_readEnd (Nat.le_refl _) hbc hbs (cat_ok (Nat.le_of_ble_eq_true rfl)) rfl rfl ha_r6 dX9_readAll_138 hf (fun r6 σ5 hk => ?_)
      replace hf := hk
      clear hk
      exact r_zreturn (b := r6) rfl dX9_readAll_141 rfl ⟨_, rfl, hf⟩
  · replace hf := hf.2 hc
    refine r_iconst (v := 0) (by decide) dX9_readAll_125 ?_
    exact r_zreturn (b := false) rfl dX9_readAll_126 rfl ⟨_, rfl, hf⟩
def F_X9_readAll_9 (l : Launch) (G : GG) (d : Nat) (X9 : Nat → Int32 → Hp → Nat → Nat → Prop) (v0 : Nat) (v1 : Int32) (σ : Hp) (bc bs : Nat) (K : Bool → Hp → Prop) : Prop :=
  fN σ v0 9 0 fun x9 =>
  fI σ x9 10 1 fun x10 =>
  ((x10 : Int32) < (v1 : Int32) →
    C_X9_fail l G d v0 1 σ fun r12 σ11 =>
    K r12 σ11) ∧
  (¬ (x10 : Int32) < (v1 : Int32) →
    fN σ v0 9 0 fun x13 =>
    C_X10_isWord l G d x13 (gK G 0) σ fun r15 σ14 =>
    (r15 = false →
      fN σ14 v0 9 0 fun x16 =>
      C_X10_isWord l G d x16 (gK G 4) σ14 fun r18 σ17 =>
      (r18 = false →
        fN σ17 v0 9 0 fun x19 =>
        C_X10_isWord l G d x19 (gK G 12) σ17 fun r21 σ20 =>
        (r21 = false →
          fN σ20 v0 9 0 fun x22 =>
          C_X10_isWord l G d x22 (gK G 13) σ20 fun r24 σ23 =>
          (r24 = false →
            fN σ23 v0 9 0 fun x25 =>
            C_X10_isWord l G d x25 (gK G 20) σ23 fun r27 σ26 =>
            (r27 = false →
              C_X9_fail l G d v0 1 σ26 fun r29 σ28 =>
              F_X9_readAll_120 l G d X9 v0 v1 r29 σ28 bc bs K) ∧
            (r27 = true →
              ∃ mz32 sz33, mz32 ≤ bc ∧ sz33 ≤ bs ∧ C_X9_readLay l G d mz32 sz33 v0 σ26 fun r31 σ30 =>
              F_X9_readAll_120 l G d X9 v0 v1 r31 σ30 (bc - mz32) (bs - sz33) K)) ∧
          (r24 = true →
            ∃ mz36 sz37, mz36 ≤ bc ∧ sz37 ≤ bs ∧ C_X9_readPiece l G d mz36 sz37 v0 σ23 fun r35 σ34 =>
            F_X9_readAll_120 l G d X9 v0 v1 r35 σ34 (bc - mz36) (bs - sz37) K)) ∧
        (r21 = true →
          C_X9_readJug l G d v0 σ20 fun r39 σ38 =>
          F_X9_readAll_120 l G d X9 v0 v1 r39 σ38 bc bs K)) ∧
      (r18 = true →
        ∃ mz42 sz43, mz42 ≤ bc ∧ sz43 ≤ bs ∧ C_X9_readBoard l G d mz42 sz43 v0 σ17 fun r41 σ40 =>
        F_X9_readAll_120 l G d X9 v0 v1 r41 σ40 (bc - mz42) (bs - sz43) K)) ∧
    (r15 = true →
      C_X9_readTable l G d v0 σ14 fun r45 σ44 =>
      F_X9_readAll_120 l G d X9 v0 v1 r45 σ44 bc bs K))
set_option maxRecDepth 100000 in
set_option maxHeartbeats 4000000 in
theorem b_X9_readAll_9 {l : Launch} {G : GG} {d : Nat} {X9 : Nat → Int32 → Hp → Nat → Nat → Prop} {v0 : Nat} {v1 : Int32} {σ : Hp} {bc bs : Nat} {K : Bool → Hp → Prop} (hX9 : ∀ v0 v1 σ bc bs, X9 v0 v1 σ bc bs → Wd l G (d + 1) "CoinsLaid$Telling" yX9_readAll cX9_readAll 3 (some FieldType.boolean) 9 [(0, aR (some v0)), (1, aI v1)] [] σ bc bs (xM (QZ K))) (hf : F_X9_readAll_9 l G d X9 v0 v1 σ bc bs K) : Wd l G (d + 1) "CoinsLaid$Telling" yX9_readAll cX9_readAll 3 (some FieldType.boolean) 9 [(0, aR (some v0)), (1, aI v1)] [] σ bc bs (xM (QZ K)) := by
  unfold F_X9_readAll_9 at hf
  refine r_iload_n (j := 1) rfl rfl dX9_readAll_9 ?_
  refine r_aload_n (j := 0) rfl rfl dX9_readAll_10 ?_
  obtain ⟨fs_x9, x9, ha_x9, hv_x9, hf⟩ := hf
  refine r_get (Cn := RX9) (Tt := TX9) (N := 8) (n := 0) rfl uw_X9 (Nat.le_of_ble_eq_true rfl) wd_2_102 ha_x9 hv_x9 dX9_readAll_11 ?_
  obtain ⟨fs_x10, x10, ha_x10, hv_x10, hf⟩ := hf
  refine r_get (Cn := RX10) (Tt := TX10) (N := 5) (n := 1) rfl uw_X10 (Nat.le_of_ble_eq_true rfl) wd_2_0 ha_x10 hv_x10 dX9_readAll_14 ?_
  refine r_icmpgt (x := v1) (y := x10) (tgt := 159) (by decide) dX9_readAll_17 (fun hc => ?_) (fun hc => ?_)
  · replace hf := hf.1 hc
    refine r_aload_n (j := 0) rfl rfl dX9_readAll_159 ?_
    refine r_iconst (v := 1) (by decide) dX9_readAll_160 ?_
    try unfold C_X9_fail at hf
    obtain ⟨⟨fs_r12, ha_r12⟩, hf⟩ := hf
    refine r_invVZ (t := 9) (As := [aI 1]) (dz := d) (mz := 0) (sz := 0) rfl wd_2_206 wd_2_208 wd_p_5 cf_X9_fail (Nat.le_refl _) (Nat.zero_le _) (Nat.zero_le _) (cat_ok (Nat.le_of_ble_eq_true rfl)) rfl rfl ha_r12 dX9_readAll_161 hf (fun r12 σ11 hk => ?_)
    replace hf := hk
    clear hk
    exact r_zreturn (b := r12) rfl dX9_readAll_164 rfl ⟨_, rfl, hf⟩
  · replace hf := hf.2 hc
    refine r_aload_n (j := 0) rfl rfl dX9_readAll_20 ?_
    obtain ⟨fs_x13, x13, ha_x13, hv_x13, hf⟩ := hf
    refine r_get (Cn := RX9) (Tt := TX9) (N := 8) (n := 0) rfl uw_X9 (Nat.le_of_ble_eq_true rfl) wd_2_102 ha_x13 hv_x13 dX9_readAll_21 ?_
    refine r_ldcS (j := 0) rfl dX9_readAll_24 ?_
    try unfold C_X10_isWord at hf
    obtain ⟨⟨fs_r15, ha_r15⟩, hf⟩ := hf
    refine r_invVZ (t := 10) (As := [aR (some (gK G 0))]) (dz := d) (mz := 0) (sz := 0) rfl wd_2_150 wd_2_151 wd_2_152 cf_X10_isWord (Nat.le_refl _) (Nat.zero_le _) (Nat.zero_le _) (cat_ok (Nat.le_of_ble_eq_true rfl)) rfl rfl ha_r15 dX9_readAll_26 hf (fun r15 σ14 hk => ?_)
    replace hf := hk
    clear hk
    refine r_ifeqZ (b := r15) (tgt := 39) (by decide) dX9_readAll_29 (fun hc => ?_) (fun hc => ?_)
    · replace hf := hf.1 hc
      refine r_aload_n (j := 0) rfl rfl dX9_readAll_39 ?_
      obtain ⟨fs_x16, x16, ha_x16, hv_x16, hf⟩ := hf
      refine r_get (Cn := RX9) (Tt := TX9) (N := 8) (n := 0) rfl uw_X9 (Nat.le_of_ble_eq_true rfl) wd_2_102 ha_x16 hv_x16 dX9_readAll_40 ?_
      refine r_ldcS (j := 4) rfl dX9_readAll_43 ?_
      try unfold C_X10_isWord at hf
      obtain ⟨⟨fs_r18, ha_r18⟩, hf⟩ := hf
      refine r_invVZ (t := 10) (As := [aR (some (gK G 4))]) (dz := d) (mz := 0) (sz := 0) rfl wd_2_150 wd_2_151 wd_2_152 cf_X10_isWord (Nat.le_refl _) (Nat.zero_le _) (Nat.zero_le _) (cat_ok (Nat.le_of_ble_eq_true rfl)) rfl rfl ha_r18 dX9_readAll_45 hf (fun r18 σ17 hk => ?_)
      replace hf := hk
      clear hk
      refine r_ifeqZ (b := r18) (tgt := 58) (by decide) dX9_readAll_48 (fun hc => ?_) (fun hc => ?_)
      · replace hf := hf.1 hc
        refine r_aload_n (j := 0) rfl rfl dX9_readAll_58 ?_
        obtain ⟨fs_x19, x19, ha_x19, hv_x19, hf⟩ := hf
        refine r_get (Cn := RX9) (Tt := TX9) (N := 8) (n := 0) rfl uw_X9 (Nat.le_of_ble_eq_true rfl) wd_2_102 ha_x19 hv_x19 dX9_readAll_59 ?_
        refine r_ldcS (j := 12) rfl dX9_readAll_62 ?_
        try unfold C_X10_isWord at hf
        obtain ⟨⟨fs_r21, ha_r21⟩, hf⟩ := hf
        refine r_invVZ (t := 10) (As := [aR (some (gK G 12))]) (dz := d) (mz := 0) (sz := 0) rfl wd_2_150 wd_2_151 wd_2_152 cf_X10_isWord (Nat.le_refl _) (Nat.zero_le _) (Nat.zero_le _) (cat_ok (Nat.le_of_ble_eq_true rfl)) rfl rfl ha_r21 dX9_readAll_64 hf (fun r21 σ20 hk => ?_)
        replace hf := hk
        clear hk
        refine r_ifeqZ (b := r21) (tgt := 77) (by decide) dX9_readAll_67 (fun hc => ?_) (fun hc => ?_)
        · replace hf := hf.1 hc
          refine r_aload_n (j := 0) rfl rfl dX9_readAll_77 ?_
          obtain ⟨fs_x22, x22, ha_x22, hv_x22, hf⟩ := hf
          refine r_get (Cn := RX9) (Tt := TX9) (N := 8) (n := 0) rfl uw_X9 (Nat.le_of_ble_eq_true rfl) wd_2_102 ha_x22 hv_x22 dX9_readAll_78 ?_
          refine r_ldcS (j := 13) rfl dX9_readAll_81 ?_
          try unfold C_X10_isWord at hf
          obtain ⟨⟨fs_r24, ha_r24⟩, hf⟩ := hf
          refine r_invVZ (t := 10) (As := [aR (some (gK G 13))]) (dz := d) (mz := 0) (sz := 0) rfl wd_2_150 wd_2_151 wd_2_152 cf_X10_isWord (Nat.le_refl _) (Nat.zero_le _) (Nat.zero_le _) (cat_ok (Nat.le_of_ble_eq_true rfl)) rfl rfl ha_r24 dX9_readAll_83 hf (fun r24 σ23 hk => ?_)
          replace hf := hk
          clear hk
          refine r_ifeqZ (b := r24) (tgt := 96) (by decide) dX9_readAll_86 (fun hc => ?_) (fun hc => ?_)
          · replace hf := hf.1 hc
            refine r_aload_n (j := 0) rfl rfl dX9_readAll_96 ?_
            obtain ⟨fs_x25, x25, ha_x25, hv_x25, hf⟩ := hf
            refine r_get (Cn := RX9) (Tt := TX9) (N := 8) (n := 0) rfl uw_X9 (Nat.le_of_ble_eq_true rfl) wd_2_102 ha_x25 hv_x25 dX9_readAll_97 ?_
            refine r_ldcS (j := 20) rfl dX9_readAll_100 ?_
            try unfold C_X10_isWord at hf
            obtain ⟨⟨fs_r27, ha_r27⟩, hf⟩ := hf
            refine r_invVZ (t := 10) (As := [aR (some (gK G 20))]) (dz := d) (mz := 0) (sz := 0) rfl wd_2_150 wd_2_151 wd_2_152 cf_X10_isWord (Nat.le_refl _) (Nat.zero_le _) (Nat.zero_le _) (cat_ok (Nat.le_of_ble_eq_true rfl)) rfl rfl ha_r27 dX9_readAll_102 hf (fun r27 σ26 hk => ?_)
            replace hf := hk
            clear hk
            refine r_ifeqZ (b := r27) (tgt := 115) (by decide) dX9_readAll_105 (fun hc => ?_) (fun hc => ?_)
            · replace hf := hf.1 hc
              refine r_aload_n (j := 0) rfl rfl dX9_readAll_115 ?_
              refine r_iconst (v := 1) (by decide) dX9_readAll_116 ?_
              try unfold C_X9_fail at hf
              obtain ⟨⟨fs_r29, ha_r29⟩, hf⟩ := hf
              refine r_invVZ (t := 9) (As := [aI 1]) (dz := d) (mz := 0) (sz := 0) rfl wd_2_206 wd_2_208 wd_p_5 cf_X9_fail (Nat.le_refl _) (Nat.zero_le _) (Nat.zero_le _) (cat_ok (Nat.le_of_ble_eq_true rfl)) rfl rfl ha_r29 dX9_readAll_117 hf (fun r29 σ28 hk => ?_)
              replace hf := hk
              clear hk
              exact r_sub [0, 1] rfl (b_X9_readAll_120 hX9 hf)
            · replace hf := hf.2 hc
              refine r_aload_n (j := 0) rfl rfl dX9_readAll_108 ?_
              obtain ⟨mz32, sz33, hbc, hbs, hf⟩ := hf
              try unfold C_X9_readLay at hf
              obtain ⟨⟨fs_r31, ha_r31⟩, hf⟩ := hf
              refine r_invVZ (t := 9) (As := []) (dz := d) (mz := mz32) (sz := sz33) rfl wd_3_221 wd_3_223 wd_p_21 cf_X9_readLay (Nat.le_refl _) hbc hbs (cat_ok (Nat.le_of_ble_eq_true rfl)) rfl rfl ha_r31 dX9_readAll_109 hf (fun r31 σ30 hk => ?_)
              replace hf := hk
              clear hk
              refine r_goto (tgt := 120) (by decide) dX9_readAll_112 ?_
              exact r_sub [0, 1] rfl (b_X9_readAll_120 hX9 hf)
          · replace hf := hf.2 hc
            refine r_aload_n (j := 0) rfl rfl dX9_readAll_89 ?_
            obtain ⟨mz36, sz37, hbc, hbs, hf⟩ := hf
            try unfold C_X9_readPiece at hf
            obtain ⟨⟨fs_r35, ha_r35⟩, hf⟩ := hf
            refine r_invVZ (t := 9) (As := []) (dz := d) (mz := mz36) (sz := sz37) rfl wd_3_166 wd_3_168 wd_p_18 cf_X9_readPiece (Nat.le_refl _) hbc hbs (cat_ok (Nat.le_of_ble_eq_true rfl)) rfl rfl ha_r35 dX9_readAll_90 hf (fun r35 σ34 hk => ?_)
            replace hf := hk
            clear hk
            refine r_goto (tgt := 120) (by decide) dX9_readAll_93 ?_
            exact r_sub [0, 1] rfl (b_X9_readAll_120 hX9 hf)
        · replace hf := hf.2 hc
          refine r_aload_n (j := 0) rfl rfl dX9_readAll_70 ?_
          try unfold C_X9_readJug at hf
          obtain ⟨⟨fs_r39, ha_r39⟩, hf⟩ := hf
          refine r_invVZ (t := 9) (As := []) (dz := d) (mz := 0) (sz := 0) rfl wd_3_144 wd_3_146 wd_p_15 cf_X9_readJug (Nat.le_refl _) (Nat.zero_le _) (Nat.zero_le _) (cat_ok (Nat.le_of_ble_eq_true rfl)) rfl rfl ha_r39 dX9_readAll_71 hf (fun r39 σ38 hk => ?_)
          replace hf := hk
          clear hk
          refine r_goto (tgt := 120) (by decide) dX9_readAll_74 ?_
          exact r_sub [0, 1] rfl (b_X9_readAll_120 hX9 hf)
      · replace hf := hf.2 hc
        refine r_aload_n (j := 0) rfl rfl dX9_readAll_51 ?_
        obtain ⟨mz42, sz43, hbc, hbs, hf⟩ := hf
        try unfold C_X9_readBoard at hf
        obtain ⟨⟨fs_r41, ha_r41⟩, hf⟩ := hf
        refine r_invVZ (t := 9) (As := []) (dz := d) (mz := mz42) (sz := sz43) rfl wd_2_218 wd_2_220 wd_p_7 cf_X9_readBoard (Nat.le_refl _) hbc hbs (cat_ok (Nat.le_of_ble_eq_true rfl)) rfl rfl ha_r41 dX9_readAll_52 hf (fun r41 σ40 hk => ?_)
        replace hf := hk
        clear hk
        refine r_goto (tgt := 120) (by decide) dX9_readAll_55 ?_
        exact r_sub [0, 1] rfl (b_X9_readAll_120 hX9 hf)
    · replace hf := hf.2 hc
      refine r_aload_n (j := 0) rfl rfl dX9_readAll_32 ?_
      try unfold C_X9_readTable at hf
      obtain ⟨⟨fs_r45, ha_r45⟩, hf⟩ := hf
      refine r_invVZ (t := 9) (As := []) (dz := d) (mz := 0) (sz := 0) rfl wd_2_202 wd_2_204 wd_p_4 cf_X9_readTable (Nat.le_refl _) (Nat.zero_le _) (Nat.zero_le _) (cat_ok (Nat.le_of_ble_eq_true rfl)) rfl rfl ha_r45 dX9_readAll_33 hf (fun r45 σ44 hk => ?_)
      replace hf := hk
      clear hk
      refine r_goto (tgt := 120) (by decide) dX9_readAll_36 ?_
      exact r_sub [0, 1] rfl (b_X9_readAll_120 hX9 hf)
def Z_X9_readAll_9 (l : Launch) (G : GG) (d : Nat) (K : Bool → Hp → Prop) : Nat → Nat → Int32 → Hp → Nat → Nat → Prop
  | 0 => fun _ _ _ _ _ => False
  | n + 1 => fun v0 v1 σ bc bs => F_X9_readAll_9 l G d (Z_X9_readAll_9 l G d K n) v0 v1 σ bc bs K
theorem z_X9_readAll_9 {l : Launch} {G : GG} {d : Nat} {K : Bool → Hp → Prop} : ∀ (n : Nat) v0 v1 σ bc bs, Z_X9_readAll_9 l G d K n v0 v1 σ bc bs → Wd l G (d + 1) "CoinsLaid$Telling" yX9_readAll cX9_readAll 3 (some FieldType.boolean) 9 [(0, aR (some v0)), (1, aI v1)] [] σ bc bs (xM (QZ K)) := by
  intro n
  induction n with
  | zero => intro v0 v1 σ bc bs hf; exact hf.elim
  | succ n ih => intro v0 v1 σ bc bs hf; exact b_X9_readAll_9 ih hf
def F_X9_readAll (l : Launch) (G : GG) (d : Nat) (v0 : Nat) (σ : Hp) (bc bs : Nat) (K : Bool → Hp → Prop) : Prop :=
  fN σ v0 9 0 fun x46 =>
  C_X10_advance l G d x46 σ fun σ47 =>
  ∃ n, Z_X9_readAll_9 l G d K n v0 0 σ47 bc bs
set_option maxRecDepth 100000 in
set_option maxHeartbeats 4000000 in
theorem b_X9_readAll_0 {l : Launch} {G : GG} {d : Nat} {v0 : Nat} {σ : Hp} {bc bs : Nat} {K : Bool → Hp → Prop} (hf : F_X9_readAll l G d v0 σ bc bs K) : Wd l G (d + 1) "CoinsLaid$Telling" yX9_readAll cX9_readAll 3 (some FieldType.boolean) 0 [(0, aR (some v0))] [] σ bc bs (xM (QZ K)) := by
  unfold F_X9_readAll at hf
  refine r_aload_n (j := 0) rfl rfl dX9_readAll_0 ?_
  obtain ⟨fs_x46, x46, ha_x46, hv_x46, hf⟩ := hf
  refine r_get (Cn := RX9) (Tt := TX9) (N := 8) (n := 0) rfl uw_X9 (Nat.le_of_ble_eq_true rfl) wd_2_102 ha_x46 hv_x46 dX9_readAll_1 ?_
  try unfold C_X10_advance at hf
  obtain ⟨⟨fs_r48, ha_r48⟩, hf⟩ := hf
  refine r_invVU (t := 10) (As := []) (dz := d) (mz := 0) (sz := 0) rfl wd_2_134 wd_2_135 wd_2_136 cf_X10_advance (Nat.le_refl _) (Nat.zero_le _) (Nat.zero_le _) (cat_ok (Nat.le_of_ble_eq_true rfl)) rfl rfl ha_r48 dX9_readAll_4 hf (fun σ47 hk => ?_)
  replace hf := hk
  clear hk
  refine r_iconst (v := 0) (by decide) dX9_readAll_7 ?_
  refine r_istore_n (L' := [(1, aI 0), (0, aR (some v0))]) rfl rfl (Nat.le_of_ble_eq_true rfl) dX9_readAll_8 ?_
  obtain ⟨n, hf⟩ := hf
  exact r_sub [1, 0] rfl (z_X9_readAll_9 n _ _ _ _ _ hf)
theorem m_X9_readAll {l : Launch} {G : GG} {d : Nat} {mc ms : Nat} {v0 : Nat} {σ : Hp} {K : Bool → Hp → Prop} (hr : rv σ v0 9) (hf : F_X9_readAll l G d v0 σ mc ms K) : C_X9_readAll l G (d + 1) mc ms v0 σ K := ⟨hr, Sp.of (by decide) (Nat.le_of_ble_eq_true rfl) (b_X9_readAll_0 hf) rfl⟩
def F_X9_readEnd_36 (l : Launch) (G : GG) (d : Nat) (v0 : Nat) (σ : Hp) (bc bs : Nat) (K : Bool → Hp → Prop) : Prop :=
  C_X9_fail l G d v0 6 σ fun r2 σ1 =>
  K r2 σ1
set_option maxRecDepth 100000 in
set_option maxHeartbeats 4000000 in
theorem b_X9_readEnd_36 {l : Launch} {G : GG} {d : Nat} {v0 : Nat} {σ : Hp} {bc bs : Nat} {K : Bool → Hp → Prop} (hf : F_X9_readEnd_36 l G d v0 σ bc bs K) : Wd l G (d + 1) "CoinsLaid$Telling" yX9_readEnd cX9_readEnd 1 (some FieldType.boolean) 36 [(0, aR (some v0))] [] σ bc bs (xM (QZ K)) := by
  unfold F_X9_readEnd_36 at hf
  refine r_aload_n (j := 0) rfl rfl dX9_readEnd_36 ?_
  refine r_bipush (v := 6) (by decide) dX9_readEnd_37 ?_
  try unfold C_X9_fail at hf
  obtain ⟨⟨fs_r2, ha_r2⟩, hf⟩ := hf
  refine r_invVZ (t := 9) (As := [aI 6]) (dz := d) (mz := 0) (sz := 0) rfl wd_2_206 wd_2_208 wd_p_5 cf_X9_fail (Nat.le_refl _) (Nat.zero_le _) (Nat.zero_le _) (cat_ok (Nat.le_of_ble_eq_true rfl)) rfl rfl ha_r2 dX9_readEnd_39 hf (fun r2 σ1 hk => ?_)
  replace hf := hk
  clear hk
  exact r_zreturn (b := r2) rfl dX9_readEnd_42 rfl ⟨_, rfl, hf⟩
def F_X9_readEnd (l : Launch) (G : GG) (d : Nat) (v0 : Nat) (σ : Hp) (bc bs : Nat) (K : Bool → Hp → Prop) : Prop :=
  fN σ v0 9 2 fun x3 =>
  fZ σ x3 8 0 fun x4 =>
  (x4 = false →
    F_X9_readEnd_36 l G d v0 σ bc bs K) ∧
  (x4 = true →
    fN σ v0 9 2 fun x5 =>
    fN σ x5 8 3 fun x6 =>
    C_Jx4a65c_isEmpty_aae02 l G d x6 σ fun r8 σ7 =>
    (r8 = true →
      F_X9_readEnd_36 l G d v0 σ7 bc bs K) ∧
    (r8 = false →
      fN σ7 v0 9 2 fun x9 =>
      fN σ7 x9 8 4 fun x10 =>
      C_Jx4a65c_isEmpty_aae02 l G d x10 σ7 fun r12 σ11 =>
      (r12 = false →
        fN σ11 v0 9 2 fun x13 =>
        ∃ mz16 sz17, mz16 ≤ bc ∧ sz17 ≤ bs ∧ C_X8_makeLays l G d mz16 sz17 x13 σ11 fun σ14 =>
        K true σ14) ∧
      (r12 = true →
        F_X9_readEnd_36 l G d v0 σ11 bc bs K)))
set_option maxRecDepth 100000 in
set_option maxHeartbeats 4000000 in
theorem b_X9_readEnd_0 {l : Launch} {G : GG} {d : Nat} {v0 : Nat} {σ : Hp} {bc bs : Nat} {K : Bool → Hp → Prop} (hf : F_X9_readEnd l G d v0 σ bc bs K) : Wd l G (d + 1) "CoinsLaid$Telling" yX9_readEnd cX9_readEnd 1 (some FieldType.boolean) 0 [(0, aR (some v0))] [] σ bc bs (xM (QZ K)) := by
  unfold F_X9_readEnd at hf
  refine r_aload_n (j := 0) rfl rfl dX9_readEnd_0 ?_
  obtain ⟨fs_x3, x3, ha_x3, hv_x3, hf⟩ := hf
  refine r_get (Cn := RX9) (Tt := TX9) (N := 8) (n := 2) rfl uw_X9 (Nat.le_of_ble_eq_true rfl) wd_2_104 ha_x3 hv_x3 dX9_readEnd_1 ?_
  obtain ⟨fs_x4, x4, ha_x4, hv_x4, hf⟩ := hf
  refine r_get (Cn := RX8) (Tt := TX8) (N := 9) (n := 0) rfl uw_X8 (Nat.le_of_ble_eq_true rfl) wd_2_54 ha_x4 hv_x4 dX9_readEnd_4 ?_
  refine r_ifeqZ (b := x4) (tgt := 36) (by decide) dX9_readEnd_7 (fun hc => ?_) (fun hc => ?_)
  · replace hf := hf.1 hc
    exact r_sub [0] rfl (b_X9_readEnd_36 hf)
  · replace hf := hf.2 hc
    refine r_aload_n (j := 0) rfl rfl dX9_readEnd_10 ?_
    obtain ⟨fs_x5, x5, ha_x5, hv_x5, hf⟩ := hf
    refine r_get (Cn := RX9) (Tt := TX9) (N := 8) (n := 2) rfl uw_X9 (Nat.le_of_ble_eq_true rfl) wd_2_104 ha_x5 hv_x5 dX9_readEnd_11 ?_
    obtain ⟨fs_x6, x6, ha_x6, hv_x6, hf⟩ := hf
    refine r_get (Cn := RX8) (Tt := TX8) (N := 9) (n := 3) rfl uw_X8 (Nat.le_of_ble_eq_true rfl) wd_2_63 ha_x6 hv_x6 dX9_readEnd_14 ?_
    try unfold C_Jx4a65c_isEmpty_aae02 at hf
    obtain ⟨⟨fs_r8, ha_r8⟩, hf⟩ := hf
    refine r_invVZ (t := 13) (As := []) (dz := d) (mz := 0) (sz := 0) rfl wd_4_94 wd_4_95 wd_4_96 cf_Jx4a65c_isEmpty_aae02 (Nat.le_refl _) (Nat.zero_le _) (Nat.zero_le _) (cat_ok (Nat.le_of_ble_eq_true rfl)) rfl rfl ha_r8 dX9_readEnd_17 hf (fun r8 σ7 hk => ?_)
    replace hf := hk
    clear hk
    refine r_ifneZ (b := r8) (tgt := 36) (by decide) dX9_readEnd_20 (fun hc => ?_) (fun hc => ?_)
    · replace hf := hf.1 hc
      exact r_sub [0] rfl (b_X9_readEnd_36 hf)
    · replace hf := hf.2 hc
      refine r_aload_n (j := 0) rfl rfl dX9_readEnd_23 ?_
      obtain ⟨fs_x9, x9, ha_x9, hv_x9, hf⟩ := hf
      refine r_get (Cn := RX9) (Tt := TX9) (N := 8) (n := 2) rfl uw_X9 (Nat.le_of_ble_eq_true rfl) wd_2_104 ha_x9 hv_x9 dX9_readEnd_24 ?_
      obtain ⟨fs_x10, x10, ha_x10, hv_x10, hf⟩ := hf
      refine r_get (Cn := RX8) (Tt := TX8) (N := 9) (n := 4) rfl uw_X8 (Nat.le_of_ble_eq_true rfl) wd_2_67 ha_x10 hv_x10 dX9_readEnd_27 ?_
      try unfold C_Jx4a65c_isEmpty_aae02 at hf
      obtain ⟨⟨fs_r12, ha_r12⟩, hf⟩ := hf
      refine r_invVZ (t := 13) (As := []) (dz := d) (mz := 0) (sz := 0) rfl wd_4_94 wd_4_95 wd_4_96 cf_Jx4a65c_isEmpty_aae02 (Nat.le_refl _) (Nat.zero_le _) (Nat.zero_le _) (cat_ok (Nat.le_of_ble_eq_true rfl)) rfl rfl ha_r12 dX9_readEnd_30 hf (fun r12 σ11 hk => ?_)
      replace hf := hk
      clear hk
      refine r_ifeqZ (b := r12) (tgt := 43) (by decide) dX9_readEnd_33 (fun hc => ?_) (fun hc => ?_)
      · replace hf := hf.1 hc
        refine r_aload_n (j := 0) rfl rfl dX9_readEnd_43 ?_
        obtain ⟨fs_x13, x13, ha_x13, hv_x13, hf⟩ := hf
        refine r_get (Cn := RX9) (Tt := TX9) (N := 8) (n := 2) rfl uw_X9 (Nat.le_of_ble_eq_true rfl) wd_2_104 ha_x13 hv_x13 dX9_readEnd_44 ?_
        obtain ⟨mz16, sz17, hbc, hbs, hf⟩ := hf
        try unfold C_X8_makeLays at hf
        obtain ⟨⟨fs_r15, ha_r15⟩, hf⟩ := hf
        refine r_invVU (t := 8) (As := []) (dz := d) (mz := mz16) (sz := sz17) rfl wd_3_225 wd_3_226 wd_3_227 cf_X8_makeLays (Nat.le_refl _) hbc hbs (cat_ok (Nat.le_of_ble_eq_true rfl)) rfl rfl ha_r15 dX9_readEnd_47 hf (fun σ14 hk => ?_)
        replace hf := hk
        clear hk
        refine r_iconst (v := 1) (by decide) dX9_readEnd_50 ?_
        exact r_zreturn (b := true) rfl dX9_readEnd_51 rfl ⟨_, rfl, hf⟩
      · replace hf := hf.2 hc
        exact r_sub [0] rfl (b_X9_readEnd_36 hf)
theorem m_X9_readEnd {l : Launch} {G : GG} {d : Nat} {mc ms : Nat} {v0 : Nat} {σ : Hp} {K : Bool → Hp → Prop} (hr : rv σ v0 9) (hf : F_X9_readEnd l G d v0 σ mc ms K) : C_X9_readEnd l G (d + 1) mc ms v0 σ K := ⟨hr, Sp.of (by decide) (Nat.le_of_ble_eq_true rfl) (b_X9_readEnd_0 hf) rfl⟩
def F_X9_readTable_53 (l : Launch) (G : GG) (d : Nat) (v0 : Nat) (σ : Hp) (K : Bool → Hp → Prop) : Prop :=
  fN σ v0 9 2 fun x1 =>
  pF σ x1 8 0 (aI (bi true)) fun σ2 =>
  fN σ2 v0 9 2 fun x4 =>
  fN σ2 v0 9 0 fun x5 =>
  C_X10_isWord l G d x5 (gK G 2) σ2 fun r7 σ6 =>
  pF σ6 x4 8 1 (aI (bi r7)) fun σ8 =>
  fN σ8 v0 9 0 fun x10 =>
  C_X10_advance l G d x10 σ8 fun σ11 =>
  fN σ11 v0 9 2 fun x13 =>
  C_X9_passPerhaps l G d v0 (gK G 3) σ11 fun r15 σ14 =>
  pF σ14 x13 8 2 (aI (bi r15)) fun σ16 =>
  K true σ16
set_option maxRecDepth 100000 in
set_option maxHeartbeats 4000000 in
theorem b_X9_readTable_53 {l : Launch} {G : GG} {d : Nat} {v0 : Nat} {σ : Hp} {K : Bool → Hp → Prop} (hf : F_X9_readTable_53 l G d v0 σ K) : Wd l G (d + 1) "CoinsLaid$Telling" yX9_readTable cX9_readTable 1 (some FieldType.boolean) 53 [(0, aR (some v0))] [] σ 0 0 (xM (QZ K)) := by
  unfold F_X9_readTable_53 at hf
  refine r_aload_n (j := 0) rfl rfl dX9_readTable_53 ?_
  obtain ⟨fs_x1, x1, ha_x1, hv_x1, hf⟩ := hf
  refine r_get (Cn := RX9) (Tt := TX9) (N := 8) (n := 2) rfl uw_X9 (Nat.le_of_ble_eq_true rfl) wd_2_104 ha_x1 hv_x1 dX9_readTable_54 ?_
  refine r_iconst (v := 1) (by decide) dX9_readTable_57 ?_
  obtain ⟨fs_x3, ha_x3, hf⟩ := hf
  generalize hσ2 : hset σ x1 (.inl (8, fs_x3.set 0 (aI (bi true)))) = σ2 at hf
  refine r_put (Cn := RX8) (Tt := TX8) (N := 9) (n := 0) (v := aI (bi true)) rfl uw_X8 (Nat.le_of_ble_eq_true rfl) wd_2_54 ha_x3 (ty0 := tyX8) tyX8_ok nmX8 rfl (fo_Z true) dX9_readTable_58 ?_
  rw [hσ2]
  refine r_aload_n (j := 0) rfl rfl dX9_readTable_61 ?_
  obtain ⟨fs_x4, x4, ha_x4, hv_x4, hf⟩ := hf
  refine r_get (Cn := RX9) (Tt := TX9) (N := 8) (n := 2) rfl uw_X9 (Nat.le_of_ble_eq_true rfl) wd_2_104 ha_x4 hv_x4 dX9_readTable_62 ?_
  refine r_aload_n (j := 0) rfl rfl dX9_readTable_65 ?_
  obtain ⟨fs_x5, x5, ha_x5, hv_x5, hf⟩ := hf
  refine r_get (Cn := RX9) (Tt := TX9) (N := 8) (n := 0) rfl uw_X9 (Nat.le_of_ble_eq_true rfl) wd_2_102 ha_x5 hv_x5 dX9_readTable_66 ?_
  refine r_ldcS (j := 2) rfl dX9_readTable_69 ?_
  try unfold C_X10_isWord at hf
  obtain ⟨⟨fs_r7, ha_r7⟩, hf⟩ := hf
  refine r_invVZ (t := 10) (As := [aR (some (gK G 2))]) (dz := d) (mz := 0) (sz := 0) rfl wd_2_150 wd_2_151 wd_2_152 cf_X10_isWord (Nat.le_refl _) (Nat.zero_le _) (Nat.zero_le _) (cat_ok (Nat.le_of_ble_eq_true rfl)) rfl rfl ha_r7 dX9_readTable_71 hf (fun r7 σ6 hk => ?_)
  replace hf := hk
  clear hk
  obtain ⟨fs_x9, ha_x9, hf⟩ := hf
  generalize hσ8 : hset σ6 x4 (.inl (8, fs_x9.set 1 (aI (bi r7)))) = σ8 at hf
  refine r_put (Cn := RX8) (Tt := TX8) (N := 9) (n := 1) (v := aI (bi r7)) rfl uw_X8 (Nat.le_of_ble_eq_true rfl) wd_2_55 ha_x9 (ty0 := tyX8) tyX8_ok nmX8 rfl (fo_Z r7) dX9_readTable_74 ?_
  rw [hσ8]
  refine r_aload_n (j := 0) rfl rfl dX9_readTable_77 ?_
  obtain ⟨fs_x10, x10, ha_x10, hv_x10, hf⟩ := hf
  refine r_get (Cn := RX9) (Tt := TX9) (N := 8) (n := 0) rfl uw_X9 (Nat.le_of_ble_eq_true rfl) wd_2_102 ha_x10 hv_x10 dX9_readTable_78 ?_
  try unfold C_X10_advance at hf
  obtain ⟨⟨fs_r12, ha_r12⟩, hf⟩ := hf
  refine r_invVU (t := 10) (As := []) (dz := d) (mz := 0) (sz := 0) rfl wd_2_134 wd_2_135 wd_2_136 cf_X10_advance (Nat.le_refl _) (Nat.zero_le _) (Nat.zero_le _) (cat_ok (Nat.le_of_ble_eq_true rfl)) rfl rfl ha_r12 dX9_readTable_81 hf (fun σ11 hk => ?_)
  replace hf := hk
  clear hk
  refine r_aload_n (j := 0) rfl rfl dX9_readTable_84 ?_
  obtain ⟨fs_x13, x13, ha_x13, hv_x13, hf⟩ := hf
  refine r_get (Cn := RX9) (Tt := TX9) (N := 8) (n := 2) rfl uw_X9 (Nat.le_of_ble_eq_true rfl) wd_2_104 ha_x13 hv_x13 dX9_readTable_85 ?_
  refine r_aload_n (j := 0) rfl rfl dX9_readTable_88 ?_
  refine r_ldcS (j := 3) rfl dX9_readTable_89 ?_
  try unfold C_X9_passPerhaps at hf
  obtain ⟨⟨fs_r15, ha_r15⟩, hf⟩ := hf
  refine r_invVZ (t := 9) (As := [aR (some (gK G 3))]) (dz := d) (mz := 0) (sz := 0) rfl wd_2_213 wd_2_215 wd_p_6 cf_X9_passPerhaps (Nat.le_refl _) (Nat.zero_le _) (Nat.zero_le _) (cat_ok (Nat.le_of_ble_eq_true rfl)) rfl rfl ha_r15 dX9_readTable_91 hf (fun r15 σ14 hk => ?_)
  replace hf := hk
  clear hk
  obtain ⟨fs_x17, ha_x17, hf⟩ := hf
  generalize hσ16 : hset σ14 x13 (.inl (8, fs_x17.set 2 (aI (bi r15)))) = σ16 at hf
  refine r_put (Cn := RX8) (Tt := TX8) (N := 9) (n := 2) (v := aI (bi r15)) rfl uw_X8 (Nat.le_of_ble_eq_true rfl) wd_2_59 ha_x17 (ty0 := tyX8) tyX8_ok nmX8 rfl (fo_Z r15) dX9_readTable_94 ?_
  rw [hσ16]
  refine r_iconst (v := 1) (by decide) dX9_readTable_97 ?_
  exact r_zreturn (b := true) rfl dX9_readTable_98 rfl ⟨_, rfl, hf⟩
def F_X9_readTable (l : Launch) (G : GG) (d : Nat) (v0 : Nat) (σ : Hp) (K : Bool → Hp → Prop) : Prop :=
  fN σ v0 9 2 fun x18 =>
  fZ σ x18 8 0 fun x19 =>
  (x19 = false →
    fN σ v0 9 0 fun x20 =>
    C_X10_advance l G d x20 σ fun σ21 =>
    fN σ21 v0 9 0 fun x23 =>
    C_X10_isWord l G d x23 (gK G 1) σ21 fun r25 σ24 =>
    (r25 = true →
      F_X9_readTable_53 l G d v0 σ24 K) ∧
    (r25 = false →
      fN σ24 v0 9 0 fun x26 =>
      C_X10_isWord l G d x26 (gK G 2) σ24 fun r28 σ27 =>
      (r28 = true →
        F_X9_readTable_53 l G d v0 σ27 K) ∧
      (r28 = false →
        C_X9_fail l G d v0 1 σ27 fun r30 σ29 =>
        K r30 σ29))) ∧
  (x19 = true →
    C_X9_fail l G d v0 3 σ fun r32 σ31 =>
    K r32 σ31)
set_option maxRecDepth 100000 in
set_option maxHeartbeats 4000000 in
theorem b_X9_readTable_0 {l : Launch} {G : GG} {d : Nat} {v0 : Nat} {σ : Hp} {K : Bool → Hp → Prop} (hf : F_X9_readTable l G d v0 σ K) : Wd l G (d + 1) "CoinsLaid$Telling" yX9_readTable cX9_readTable 1 (some FieldType.boolean) 0 [(0, aR (some v0))] [] σ 0 0 (xM (QZ K)) := by
  unfold F_X9_readTable at hf
  refine r_aload_n (j := 0) rfl rfl dX9_readTable_0 ?_
  obtain ⟨fs_x18, x18, ha_x18, hv_x18, hf⟩ := hf
  refine r_get (Cn := RX9) (Tt := TX9) (N := 8) (n := 2) rfl uw_X9 (Nat.le_of_ble_eq_true rfl) wd_2_104 ha_x18 hv_x18 dX9_readTable_1 ?_
  obtain ⟨fs_x19, x19, ha_x19, hv_x19, hf⟩ := hf
  refine r_get (Cn := RX8) (Tt := TX8) (N := 9) (n := 0) rfl uw_X8 (Nat.le_of_ble_eq_true rfl) wd_2_54 ha_x19 hv_x19 dX9_readTable_4 ?_
  refine r_ifeqZ (b := x19) (tgt := 16) (by decide) dX9_readTable_7 (fun hc => ?_) (fun hc => ?_)
  · replace hf := hf.1 hc
    refine r_aload_n (j := 0) rfl rfl dX9_readTable_16 ?_
    obtain ⟨fs_x20, x20, ha_x20, hv_x20, hf⟩ := hf
    refine r_get (Cn := RX9) (Tt := TX9) (N := 8) (n := 0) rfl uw_X9 (Nat.le_of_ble_eq_true rfl) wd_2_102 ha_x20 hv_x20 dX9_readTable_17 ?_
    try unfold C_X10_advance at hf
    obtain ⟨⟨fs_r22, ha_r22⟩, hf⟩ := hf
    refine r_invVU (t := 10) (As := []) (dz := d) (mz := 0) (sz := 0) rfl wd_2_134 wd_2_135 wd_2_136 cf_X10_advance (Nat.le_refl _) (Nat.zero_le _) (Nat.zero_le _) (cat_ok (Nat.le_of_ble_eq_true rfl)) rfl rfl ha_r22 dX9_readTable_20 hf (fun σ21 hk => ?_)
    replace hf := hk
    clear hk
    refine r_aload_n (j := 0) rfl rfl dX9_readTable_23 ?_
    obtain ⟨fs_x23, x23, ha_x23, hv_x23, hf⟩ := hf
    refine r_get (Cn := RX9) (Tt := TX9) (N := 8) (n := 0) rfl uw_X9 (Nat.le_of_ble_eq_true rfl) wd_2_102 ha_x23 hv_x23 dX9_readTable_24 ?_
    refine r_ldcS (j := 1) rfl dX9_readTable_27 ?_
    try unfold C_X10_isWord at hf
    obtain ⟨⟨fs_r25, ha_r25⟩, hf⟩ := hf
    refine r_invVZ (t := 10) (As := [aR (some (gK G 1))]) (dz := d) (mz := 0) (sz := 0) rfl wd_2_150 wd_2_151 wd_2_152 cf_X10_isWord (Nat.le_refl _) (Nat.zero_le _) (Nat.zero_le _) (cat_ok (Nat.le_of_ble_eq_true rfl)) rfl rfl ha_r25 dX9_readTable_29 hf (fun r25 σ24 hk => ?_)
    replace hf := hk
    clear hk
    refine r_ifneZ (b := r25) (tgt := 53) (by decide) dX9_readTable_32 (fun hc => ?_) (fun hc => ?_)
    · replace hf := hf.1 hc
      exact r_sub [0] rfl (b_X9_readTable_53 hf)
    · replace hf := hf.2 hc
      refine r_aload_n (j := 0) rfl rfl dX9_readTable_35 ?_
      obtain ⟨fs_x26, x26, ha_x26, hv_x26, hf⟩ := hf
      refine r_get (Cn := RX9) (Tt := TX9) (N := 8) (n := 0) rfl uw_X9 (Nat.le_of_ble_eq_true rfl) wd_2_102 ha_x26 hv_x26 dX9_readTable_36 ?_
      refine r_ldcS (j := 2) rfl dX9_readTable_39 ?_
      try unfold C_X10_isWord at hf
      obtain ⟨⟨fs_r28, ha_r28⟩, hf⟩ := hf
      refine r_invVZ (t := 10) (As := [aR (some (gK G 2))]) (dz := d) (mz := 0) (sz := 0) rfl wd_2_150 wd_2_151 wd_2_152 cf_X10_isWord (Nat.le_refl _) (Nat.zero_le _) (Nat.zero_le _) (cat_ok (Nat.le_of_ble_eq_true rfl)) rfl rfl ha_r28 dX9_readTable_41 hf (fun r28 σ27 hk => ?_)
      replace hf := hk
      clear hk
      refine r_ifneZ (b := r28) (tgt := 53) (by decide) dX9_readTable_44 (fun hc => ?_) (fun hc => ?_)
      · replace hf := hf.1 hc
        exact r_sub [0] rfl (b_X9_readTable_53 hf)
      · replace hf := hf.2 hc
        refine r_aload_n (j := 0) rfl rfl dX9_readTable_47 ?_
        refine r_iconst (v := 1) (by decide) dX9_readTable_48 ?_
        try unfold C_X9_fail at hf
        obtain ⟨⟨fs_r30, ha_r30⟩, hf⟩ := hf
        refine r_invVZ (t := 9) (As := [aI 1]) (dz := d) (mz := 0) (sz := 0) rfl wd_2_206 wd_2_208 wd_p_5 cf_X9_fail (Nat.le_refl _) (Nat.zero_le _) (Nat.zero_le _) (cat_ok (Nat.le_of_ble_eq_true rfl)) rfl rfl ha_r30 dX9_readTable_49 hf (fun r30 σ29 hk => ?_)
        replace hf := hk
        clear hk
        exact r_zreturn (b := r30) rfl dX9_readTable_52 rfl ⟨_, rfl, hf⟩
  · replace hf := hf.2 hc
    refine r_aload_n (j := 0) rfl rfl dX9_readTable_10 ?_
    refine r_iconst (v := 3) (by decide) dX9_readTable_11 ?_
    try unfold C_X9_fail at hf
    obtain ⟨⟨fs_r32, ha_r32⟩, hf⟩ := hf
    refine r_invVZ (t := 9) (As := [aI 3]) (dz := d) (mz := 0) (sz := 0) rfl wd_2_206 wd_2_208 wd_p_5 cf_X9_fail (Nat.le_refl _) (Nat.zero_le _) (Nat.zero_le _) (cat_ok (Nat.le_of_ble_eq_true rfl)) rfl rfl ha_r32 dX9_readTable_12 hf (fun r32 σ31 hk => ?_)
    replace hf := hk
    clear hk
    exact r_zreturn (b := r32) rfl dX9_readTable_15 rfl ⟨_, rfl, hf⟩
theorem m_X9_readTable {l : Launch} {G : GG} {d : Nat} {v0 : Nat} {σ : Hp} {K : Bool → Hp → Prop} (hr : rv σ v0 9) (hf : F_X9_readTable l G d v0 σ K) : C_X9_readTable l G (d + 1) v0 σ K := ⟨hr, Sp.of (by decide) (Nat.le_of_ble_eq_true rfl) (b_X9_readTable_0 hf) rfl⟩
def F_X9_readBoard_33 (l : Launch) (G : GG) (d : Nat) (σ : Hp) (bc bs : Nat) (K : Bool → Hp → Prop) : Prop :=
  K false σ
set_option maxRecDepth 100000 in
set_option maxHeartbeats 4000000 in
theorem b_X9_readBoard_33 {l : Launch} {G : GG} {d : Nat} {σ : Hp} {bc bs : Nat} {K : Bool → Hp → Prop} (hf : F_X9_readBoard_33 l G d  σ bc bs K) : Wd l G (d + 1) "CoinsLaid$Telling" yX9_readBoard cX9_readBoard 3 (some FieldType.boolean) 33 [] [] σ bc bs (xM (QZ K)) := by
  unfold F_X9_readBoard_33 at hf
  refine r_iconst (v := 0) (by decide) dX9_readBoard_33 ?_
  exact r_zreturn (b := false) rfl dX9_readBoard_34 rfl ⟨_, rfl, hf⟩
def F_X9_readBoard_54 (l : Launch) (G : GG) (d : Nat) (σ : Hp) (bc bs : Nat) (K : Bool → Hp → Prop) : Prop :=
  K false σ
set_option maxRecDepth 100000 in
set_option maxHeartbeats 4000000 in
theorem b_X9_readBoard_54 {l : Launch} {G : GG} {d : Nat} {σ : Hp} {bc bs : Nat} {K : Bool → Hp → Prop} (hf : F_X9_readBoard_54 l G d  σ bc bs K) : Wd l G (d + 1) "CoinsLaid$Telling" yX9_readBoard cX9_readBoard 3 (some FieldType.boolean) 54 [] [] σ bc bs (xM (QZ K)) := by
  unfold F_X9_readBoard_54 at hf
  refine r_iconst (v := 0) (by decide) dX9_readBoard_54 ?_
  exact r_zreturn (b := false) rfl dX9_readBoard_55 rfl ⟨_, rfl, hf⟩
def F_X9_readBoard_89 (l : Launch) (G : GG) (d : Nat) (σ : Hp) (bc bs : Nat) (K : Bool → Hp → Prop) : Prop :=
  K false σ
set_option maxRecDepth 100000 in
set_option maxHeartbeats 4000000 in
theorem b_X9_readBoard_89 {l : Launch} {G : GG} {d : Nat} {σ : Hp} {bc bs : Nat} {K : Bool → Hp → Prop} (hf : F_X9_readBoard_89 l G d  σ bc bs K) : Wd l G (d + 1) "CoinsLaid$Telling" yX9_readBoard cX9_readBoard 3 (some FieldType.boolean) 89 [] [] σ bc bs (xM (QZ K)) := by
  unfold F_X9_readBoard_89 at hf
  refine r_iconst (v := 0) (by decide) dX9_readBoard_89 ?_
  exact r_zreturn (b := false) rfl dX9_readBoard_90 rfl ⟨_, rfl, hf⟩
def F_X9_readBoard_20 (l : Launch) (G : GG) (d : Nat) (v0 : Nat) (s0 : Nat) (s1 : Bool) (σ : Hp) (bc bs : Nat) (K : Bool → Hp → Prop) : Prop :=
  C_X9_passFirstWord l G d s0 s1 σ fun r2 σ1 =>
  (r2 = false →
    F_X9_readBoard_33 l G d σ1 bc bs K) ∧
  (r2 = true →
    C_X9_passNewName l G d v0 σ1 fun r4 σ3 =>
    (r4 = true →
      C_X9_passWord l G d v0 (gK G 10) σ3 fun r6 σ5 =>
      (r6 = false →
        F_X9_readBoard_54 l G d σ5 bc bs K) ∧
      (r6 = true →
        C_X9_isWholeWithin l G d v0 1 8 σ5 fun r8 σ7 =>
        (r8 = true →
          fN σ7 v0 9 0 fun x9 =>
          C_X10_wholeValue l G d x9 σ7 fun r11 σ10 =>
          fN σ10 v0 9 0 fun x12 =>
          C_X10_advance l G d x12 σ10 fun σ13 =>
          C_X9_passWord l G d v0 (gK G 11) σ13 fun r16 σ15 =>
          (r16 = false →
            F_X9_readBoard_89 l G d σ15 bc bs K) ∧
          (r16 = true →
            C_X9_isWholeWithin l G d v0 1 4 σ15 fun r18 σ17 =>
            (r18 = true →
              fN σ17 v0 9 0 fun x19 =>
              C_X10_wholeValue l G d x19 σ17 fun r21 σ20 =>
              fN σ20 v0 9 2 fun x22 =>
              fI σ20 x22 8 5 fun x23 =>
              (((x23 + (r11 * r21)) : Int32) ≤ (14 : Int32) →
                fN σ20 v0 9 2 fun x24 =>
                fJ σ20 v0 9 5 fun x25 =>
                ∃ mz28 sz29, mz28 ≤ bc ∧ sz29 ≤ bs ∧ C_X8_addBoard l G d mz28 sz29 x24 x25 r11 r21 σ20 fun σ26 =>
                fN σ26 v0 9 0 fun x30 =>
                C_X10_advance l G d x30 σ26 fun σ31 =>
                K true σ31) ∧
              (¬ ((x23 + (r11 * r21)) : Int32) ≤ (14 : Int32) →
                C_X9_fail l G d v0 4 σ20 fun r34 σ33 =>
                K r34 σ33)) ∧
            (r18 = false →
              F_X9_readBoard_89 l G d σ17 bc bs K))) ∧
        (r8 = false →
          F_X9_readBoard_54 l G d σ7 bc bs K))) ∧
    (r4 = false →
      F_X9_readBoard_33 l G d σ3 bc bs K))
set_option maxRecDepth 100000 in
set_option maxHeartbeats 4000000 in
theorem b_X9_readBoard_20 {l : Launch} {G : GG} {d : Nat} {v0 : Nat} {s0 : Nat} {s1 : Bool} {σ : Hp} {bc bs : Nat} {K : Bool → Hp → Prop} (hf : F_X9_readBoard_20 l G d v0 s0 s1 σ bc bs K) : Wd l G (d + 1) "CoinsLaid$Telling" yX9_readBoard cX9_readBoard 3 (some FieldType.boolean) 20 [(0, aR (some v0))] [aI (bi s1), aR (some s0)] σ bc bs (xM (QZ K)) := by
  unfold F_X9_readBoard_20 at hf
  try unfold C_X9_passFirstWord at hf
  obtain ⟨⟨fs_r2, ha_r2⟩, hf⟩ := hf
  refine r_invVZ (t := 9) (As := [aI (bi s1)]) (dz := d) (mz := 0) (sz := 0) rfl wd_2_226 wd_2_228 wd_p_8 cf_X9_passFirstWord (Nat.le_refl _) (Nat.zero_le _) (Nat.zero_le _) (cat_ok (Nat.le_of_ble_eq_true rfl)) rfl rfl ha_r2 dX9_readBoard_20 hf (fun r2 σ1 hk => ?_)
  replace hf := hk
  clear hk
  refine r_ifeqZ (b := r2) (tgt := 33) (by decide) dX9_readBoard_23 (fun hc => ?_) (fun hc => ?_)
  · replace hf := hf.1 hc
    exact r_sub [] rfl (b_X9_readBoard_33 hf)
  · replace hf := hf.2 hc
    refine r_aload_n (j := 0) rfl rfl dX9_readBoard_26 ?_
    try unfold C_X9_passNewName at hf
    obtain ⟨⟨fs_r4, ha_r4⟩, hf⟩ := hf
    refine r_invVZ (t := 9) (As := []) (dz := d) (mz := 0) (sz := 0) rfl wd_2_230 wd_2_232 wd_p_9 cf_X9_passNewName (Nat.le_refl _) (Nat.zero_le _) (Nat.zero_le _) (cat_ok (Nat.le_of_ble_eq_true rfl)) rfl rfl ha_r4 dX9_readBoard_27 hf (fun r4 σ3 hk => ?_)
    replace hf := hk
    clear hk
    refine r_ifneZ (b := r4) (tgt := 35) (by decide) dX9_readBoard_30 (fun hc => ?_) (fun hc => ?_)
    · replace hf := hf.1 hc
      refine r_aload_n (j := 0) rfl rfl dX9_readBoard_35 ?_
      refine r_ldcS (j := 10) rfl dX9_readBoard_36 ?_
      try unfold C_X9_passWord at hf
      obtain ⟨⟨fs_r6, ha_r6⟩, hf⟩ := hf
      refine r_invVZ (t := 9) (As := [aR (some (gK G 10))]) (dz := d) (mz := 0) (sz := 0) rfl wd_3_33 wd_3_35 wd_p_10 cf_X9_passWord (Nat.le_refl _) (Nat.zero_le _) (Nat.zero_le _) (cat_ok (Nat.le_of_ble_eq_true rfl)) rfl rfl ha_r6 dX9_readBoard_38 hf (fun r6 σ5 hk => ?_)
      replace hf := hk
      clear hk
      refine r_ifeqZ (b := r6) (tgt := 54) (by decide) dX9_readBoard_41 (fun hc => ?_) (fun hc => ?_)
      · replace hf := hf.1 hc
        exact r_sub [] rfl (b_X9_readBoard_54 hf)
      · replace hf := hf.2 hc
        refine r_aload_n (j := 0) rfl rfl dX9_readBoard_44 ?_
        refine r_iconst (v := 1) (by decide) dX9_readBoard_45 ?_
        refine r_bipush (v := 8) (by decide) dX9_readBoard_46 ?_
        try unfold C_X9_isWholeWithin at hf
        obtain ⟨⟨fs_r8, ha_r8⟩, hf⟩ := hf
        refine r_invVZ (t := 9) (As := [aI 1, aI 8]) (dz := d) (mz := 0) (sz := 0) rfl wd_3_37 wd_3_39 wd_p_11 cf_X9_isWholeWithin (Nat.le_refl _) (Nat.zero_le _) (Nat.zero_le _) (cat_ok (Nat.le_of_ble_eq_true rfl)) rfl rfl ha_r8 dX9_readBoard_48 hf (fun r8 σ7 hk => ?_)
        replace hf := hk
        clear hk
        refine r_ifneZ (b := r8) (tgt := 56) (by decide) dX9_readBoard_51 (fun hc => ?_) (fun hc => ?_)
        · replace hf := hf.1 hc
          refine r_aload_n (j := 0) rfl rfl dX9_readBoard_56 ?_
          obtain ⟨fs_x9, x9, ha_x9, hv_x9, hf⟩ := hf
          refine r_get (Cn := RX9) (Tt := TX9) (N := 8) (n := 0) rfl uw_X9 (Nat.le_of_ble_eq_true rfl) wd_2_102 ha_x9 hv_x9 dX9_readBoard_57 ?_
          try unfold C_X10_wholeValue at hf
          obtain ⟨⟨fs_r11, ha_r11⟩, hf⟩ := hf
          refine r_invVI (t := 10) (As := []) (dz := d) (mz := 0) (sz := 0) rfl wd_3_41 wd_3_42 wd_3_43 cf_X10_wholeValue (Nat.le_refl _) (Nat.zero_le _) (Nat.zero_le _) (cat_ok (Nat.le_of_ble_eq_true rfl)) rfl rfl ha_r11 dX9_readBoard_60 hf (fun r11 σ10 hk => ?_)
          replace hf := hk
          clear hk
          refine r_istore_n (L' := [(1, aI r11), (0, aR (some v0))]) rfl rfl (Nat.le_of_ble_eq_true rfl) dX9_readBoard_63 ?_
          refine r_aload_n (j := 1) rfl rfl dX9_readBoard_64 ?_
          obtain ⟨fs_x12, x12, ha_x12, hv_x12, hf⟩ := hf
          refine r_get (Cn := RX9) (Tt := TX9) (N := 8) (n := 0) rfl uw_X9 (Nat.le_of_ble_eq_true rfl) wd_2_102 ha_x12 hv_x12 dX9_readBoard_65 ?_
          try unfold C_X10_advance at hf
          obtain ⟨⟨fs_r14, ha_r14⟩, hf⟩ := hf
          refine r_invVU (t := 10) (As := []) (dz := d) (mz := 0) (sz := 0) rfl wd_2_134 wd_2_135 wd_2_136 cf_X10_advance (Nat.le_refl _) (Nat.zero_le _) (Nat.zero_le _) (cat_ok (Nat.le_of_ble_eq_true rfl)) rfl rfl ha_r14 dX9_readBoard_68 hf (fun σ13 hk => ?_)
          replace hf := hk
          clear hk
          refine r_aload_n (j := 1) rfl rfl dX9_readBoard_71 ?_
          refine r_ldcS (j := 11) rfl dX9_readBoard_72 ?_
          try unfold C_X9_passWord at hf
          obtain ⟨⟨fs_r16, ha_r16⟩, hf⟩ := hf
          refine r_invVZ (t := 9) (As := [aR (some (gK G 11))]) (dz := d) (mz := 0) (sz := 0) rfl wd_3_33 wd_3_35 wd_p_10 cf_X9_passWord (Nat.le_refl _) (Nat.zero_le _) (Nat.zero_le _) (cat_ok (Nat.le_of_ble_eq_true rfl)) rfl rfl ha_r16 dX9_readBoard_74 hf (fun r16 σ15 hk => ?_)
          replace hf := hk
          clear hk
          refine r_ifeqZ (b := r16) (tgt := 89) (by decide) dX9_readBoard_77 (fun hc => ?_) (fun hc => ?_)
          · replace hf := hf.1 hc
            exact r_sub [] rfl (b_X9_readBoard_89 hf)
          · replace hf := hf.2 hc
            refine r_aload_n (j := 1) rfl rfl dX9_readBoard_80 ?_
            refine r_iconst (v := 1) (by decide) dX9_readBoard_81 ?_
            refine r_iconst (v := 4) (by decide) dX9_readBoard_82 ?_
            try unfold C_X9_isWholeWithin at hf
            obtain ⟨⟨fs_r18, ha_r18⟩, hf⟩ := hf
            refine r_invVZ (t := 9) (As := [aI 1, aI 4]) (dz := d) (mz := 0) (sz := 0) rfl wd_3_37 wd_3_39 wd_p_11 cf_X9_isWholeWithin (Nat.le_refl _) (Nat.zero_le _) (Nat.zero_le _) (cat_ok (Nat.le_of_ble_eq_true rfl)) rfl rfl ha_r18 dX9_readBoard_83 hf (fun r18 σ17 hk => ?_)
            replace hf := hk
            clear hk
            refine r_ifneZ (b := r18) (tgt := 91) (by decide) dX9_readBoard_86 (fun hc => ?_) (fun hc => ?_)
            · replace hf := hf.1 hc
              refine r_aload_n (j := 1) rfl rfl dX9_readBoard_91 ?_
              obtain ⟨fs_x19, x19, ha_x19, hv_x19, hf⟩ := hf
              refine r_get (Cn := RX9) (Tt := TX9) (N := 8) (n := 0) rfl uw_X9 (Nat.le_of_ble_eq_true rfl) wd_2_102 ha_x19 hv_x19 dX9_readBoard_92 ?_
              try unfold C_X10_wholeValue at hf
              obtain ⟨⟨fs_r21, ha_r21⟩, hf⟩ := hf
              refine r_invVI (t := 10) (As := []) (dz := d) (mz := 0) (sz := 0) rfl wd_3_41 wd_3_42 wd_3_43 cf_X10_wholeValue (Nat.le_refl _) (Nat.zero_le _) (Nat.zero_le _) (cat_ok (Nat.le_of_ble_eq_true rfl)) rfl rfl ha_r21 dX9_readBoard_95 hf (fun r21 σ20 hk => ?_)
              replace hf := hk
              clear hk
              refine r_istore_n (L' := [(2, aI r21), (1, aI r11), (0, aR (some v0))]) rfl rfl (Nat.le_of_ble_eq_true rfl) dX9_readBoard_98 ?_
              refine r_aload_n (j := 2) rfl rfl dX9_readBoard_99 ?_
              obtain ⟨fs_x22, x22, ha_x22, hv_x22, hf⟩ := hf
              refine r_get (Cn := RX9) (Tt := TX9) (N := 8) (n := 2) rfl uw_X9 (Nat.le_of_ble_eq_true rfl) wd_2_104 ha_x22 hv_x22 dX9_readBoard_100 ?_
              obtain ⟨fs_x23, x23, ha_x23, hv_x23, hf⟩ := hf
              refine r_get (Cn := RX8) (Tt := TX8) (N := 9) (n := 5) rfl uw_X8 (Nat.le_of_ble_eq_true rfl) wd_2_72 ha_x23 hv_x23 dX9_readBoard_103 ?_
              refine r_iload_n (j := 1) rfl rfl dX9_readBoard_106 ?_
              refine r_iload_n (j := 0) rfl rfl dX9_readBoard_107 ?_
              refine r_imul (x := r11) (y := r21) dX9_readBoard_108 ?_
              refine r_iadd (x := x23) (y := (r11 * r21)) dX9_readBoard_109 ?_
              refine r_bipush (v := 14) (by decide) dX9_readBoard_110 ?_
              refine r_icmple (x := (x23 + (r11 * r21))) (y := 14) (tgt := 121) (by decide) dX9_readBoard_112 (fun hc => ?_) (fun hc => ?_)
              · replace hf := hf.1 hc
                refine r_aload_n (j := 2) rfl rfl dX9_readBoard_121 ?_
                obtain ⟨fs_x24, x24, ha_x24, hv_x24, hf⟩ := hf
                refine r_get (Cn := RX9) (Tt := TX9) (N := 8) (n := 2) rfl uw_X9 (Nat.le_of_ble_eq_true rfl) wd_2_104 ha_x24 hv_x24 dX9_readBoard_122 ?_
                refine r_aload_n (j := 2) rfl rfl dX9_readBoard_125 ?_
                obtain ⟨fs_x25, x25, ha_x25, hv_x25, hf⟩ := hf
                refine r_get (Cn := RX9) (Tt := TX9) (N := 8) (n := 5) rfl uw_X9 (Nat.le_of_ble_eq_true rfl) wd_2_110 ha_x25 hv_x25 dX9_readBoard_126 ?_
                refine r_iload_n (j := 1) rfl rfl dX9_readBoard_129 ?_
                refine r_iload_n (j := 0) rfl rfl dX9_readBoard_130 ?_
                obtain ⟨mz28, sz29, hbc, hbs, hf⟩ := hf
                try unfold C_X8_addBoard at hf
                obtain ⟨⟨fs_r27, ha_r27⟩, hf⟩ := hf
                refine r_invVU (t := 8) (As := [aJ x25, aI r11, aI r21]) (dz := d) (mz := mz28) (sz := sz29) rfl wd_3_46 wd_3_47 wd_3_48 cf_X8_addBoard (Nat.le_refl _) hbc hbs (cat_ok (Nat.le_of_ble_eq_true rfl)) rfl rfl ha_r27 dX9_readBoard_131 hf (fun σ26 hk => ?_)
                replace hf := hk
                clear hk
                refine r_aload_n (j := 2) rfl rfl dX9_readBoard_134 ?_
                obtain ⟨fs_x30, x30, ha_x30, hv_x30, hf⟩ := hf
                refine r_get (Cn := RX9) (Tt := TX9) (N := 8) (n := 0) rfl uw_X9 (Nat.le_of_ble_eq_true rfl) wd_2_102 ha_x30 hv_x30 dX9_readBoard_135 ?_
                try unfold C_X10_advance at hf
                obtain ⟨⟨fs_r32, ha_r32⟩, hf⟩ := hf
                refine r_invVU (t := 10) (As := []) (dz := d) (mz := 0) (sz := 0) rfl wd_2_134 wd_2_135 wd_2_136 cf_X10_advance (Nat.le_refl _) (Nat.zero_le _) (Nat.zero_le _) (cat_ok (Nat.le_of_ble_eq_true rfl)) rfl rfl ha_r32 dX9_readBoard_138 hf (fun σ31 hk => ?_)
                replace hf := hk
                clear hk
                refine r_iconst (v := 1) (by decide) dX9_readBoard_141 ?_
                exact r_zreturn (b := true) rfl dX9_readBoard_142 rfl ⟨_, rfl, hf⟩
              · replace hf := hf.2 hc
                refine r_aload_n (j := 2) rfl rfl dX9_readBoard_115 ?_
                refine r_iconst (v := 4) (by decide) dX9_readBoard_116 ?_
                try unfold C_X9_fail at hf
                obtain ⟨⟨fs_r34, ha_r34⟩, hf⟩ := hf
                refine r_invVZ (t := 9) (As := [aI 4]) (dz := d) (mz := 0) (sz := 0) rfl wd_2_206 wd_2_208 wd_p_5 cf_X9_fail (Nat.le_refl _) (Nat.zero_le _) (Nat.zero_le _) (cat_ok (Nat.le_of_ble_eq_true rfl)) rfl rfl ha_r34 dX9_readBoard_117 hf (fun r34 σ33 hk => ?_)
                replace hf := hk
                clear hk
                exact r_zreturn (b := r34) rfl dX9_readBoard_120 rfl ⟨_, rfl, hf⟩
            · replace hf := hf.2 hc
              exact r_sub [] rfl (b_X9_readBoard_89 hf)
        · replace hf := hf.2 hc
          exact r_sub [] rfl (b_X9_readBoard_54 hf)
    · replace hf := hf.2 hc
      exact r_sub [] rfl (b_X9_readBoard_33 hf)
def F_X9_readBoard (l : Launch) (G : GG) (d : Nat) (v0 : Nat) (σ : Hp) (bc bs : Nat) (K : Bool → Hp → Prop) : Prop :=
  fN σ v0 9 2 fun x35 =>
  fN σ x35 8 3 fun x36 =>
  C_Jx4a65c_size_8abf5 l G d x36 σ fun r38 σ37 =>
  ((3 : Int32) ≤ (r38 : Int32) →
    F_X9_readBoard_20 l G d v0 v0 false σ37 bc bs K) ∧
  (¬ (3 : Int32) ≤ (r38 : Int32) →
    F_X9_readBoard_20 l G d v0 v0 true σ37 bc bs K)
set_option maxRecDepth 100000 in
set_option maxHeartbeats 4000000 in
theorem b_X9_readBoard_0 {l : Launch} {G : GG} {d : Nat} {v0 : Nat} {σ : Hp} {bc bs : Nat} {K : Bool → Hp → Prop} (hf : F_X9_readBoard l G d v0 σ bc bs K) : Wd l G (d + 1) "CoinsLaid$Telling" yX9_readBoard cX9_readBoard 3 (some FieldType.boolean) 0 [(0, aR (some v0))] [] σ bc bs (xM (QZ K)) := by
  unfold F_X9_readBoard at hf
  refine r_aload_n (j := 0) rfl rfl dX9_readBoard_0 ?_
  refine r_aload_n (j := 0) rfl rfl dX9_readBoard_1 ?_
  obtain ⟨fs_x35, x35, ha_x35, hv_x35, hf⟩ := hf
  refine r_get (Cn := RX9) (Tt := TX9) (N := 8) (n := 2) rfl uw_X9 (Nat.le_of_ble_eq_true rfl) wd_2_104 ha_x35 hv_x35 dX9_readBoard_2 ?_
  obtain ⟨fs_x36, x36, ha_x36, hv_x36, hf⟩ := hf
  refine r_get (Cn := RX8) (Tt := TX8) (N := 9) (n := 3) rfl uw_X8 (Nat.le_of_ble_eq_true rfl) wd_2_63 ha_x36 hv_x36 dX9_readBoard_5 ?_
  try unfold C_Jx4a65c_size_8abf5 at hf
  obtain ⟨⟨fs_r38, ha_r38⟩, hf⟩ := hf
  refine r_invVI (t := 13) (As := []) (dz := d) (mz := 0) (sz := 0) rfl wd_2_222 wd_2_223 wd_2_224 cf_Jx4a65c_size_8abf5 (Nat.le_refl _) (Nat.zero_le _) (Nat.zero_le _) (cat_ok (Nat.le_of_ble_eq_true rfl)) rfl rfl ha_r38 dX9_readBoard_8 hf (fun r38 σ37 hk => ?_)
  replace hf := hk
  clear hk
  refine r_iconst (v := 3) (by decide) dX9_readBoard_11 ?_
  refine r_icmpge (x := r38) (y := 3) (tgt := 19) (by decide) dX9_readBoard_12 (fun hc => ?_) (fun hc => ?_)
  · replace hf := hf.1 hc
    refine r_iconst (v := 0) (by decide) dX9_readBoard_19 ?_
    exact r_sub [0] rfl (b_X9_readBoard_20 hf)
  · replace hf := hf.2 hc
    refine r_iconst (v := 1) (by decide) dX9_readBoard_15 ?_
    refine r_goto (tgt := 20) (by decide) dX9_readBoard_16 ?_
    exact r_sub [0] rfl (b_X9_readBoard_20 hf)
theorem m_X9_readBoard {l : Launch} {G : GG} {d : Nat} {mc ms : Nat} {v0 : Nat} {σ : Hp} {K : Bool → Hp → Prop} (hr : rv σ v0 9) (hf : F_X9_readBoard l G d v0 σ mc ms K) : C_X9_readBoard l G (d + 1) mc ms v0 σ K := ⟨hr, Sp.of (by decide) (Nat.le_of_ble_eq_true rfl) (b_X9_readBoard_0 hf) rfl⟩
def F_X9_readJug (l : Launch) (G : GG) (d : Nat) (v0 : Nat) (σ : Hp) (K : Bool → Hp → Prop) : Prop :=
  C_X9_passFirstWord l G d v0 true σ fun r2 σ1 =>
  (r2 = true →
    fN σ1 v0 9 0 fun x3 =>
    C_X10_isName l G d x3 σ1 fun r5 σ4 =>
    (r5 = true →
      fN σ4 v0 9 2 fun x6 =>
      fN σ4 v0 9 0 fun x7 =>
      C_X10_wordCode l G d x7 σ4 fun r9 σ8 =>
      C_X8_boardNamed l G d x6 r9 σ8 fun r11 σ10 =>
      (∀ b12, r11 = some b12 →
        fN σ10 v0 9 0 fun x13 =>
        C_X10_advance l G d x13 σ10 fun σ14 =>
        fI σ14 b12 0 2 fun x16 =>
        fI σ14 b12 0 3 fun x17 =>
        C_X9_readPair l G d v0 0 (x16 - 1) (x17 - 1) σ14 fun r19 σ18 =>
        (r19 = true →
          fI σ18 v0 9 6 fun x20 =>
          fI σ18 v0 9 7 fun x21 =>
          C_X0_bit l G d b12 x20 x21 σ18 fun r23 σ22 =>
          fN σ22 v0 9 2 fun x24 =>
          fI σ22 x24 8 6 fun x25 =>
          (((x25 &&& r23) : Int32) = 0 →
            fN σ22 v0 9 2 fun x26 =>
            fI σ22 x26 8 6 fun x27 =>
            pF σ22 x26 8 6 (aI (x27 ||| r23)) fun σ28 =>
            fN σ28 v0 9 0 fun x30 =>
            C_X10_advance l G d x30 σ28 fun σ31 =>
            K true σ31) ∧
          (¬ ((x25 &&& r23) : Int32) = 0 →
            C_X9_fail l G d v0 3 σ22 fun r34 σ33 =>
            K r34 σ33)) ∧
        (r19 = false →
          K false σ18)) ∧
      (r11 = none →
        C_X9_fail l G d v0 2 σ10 fun r36 σ35 =>
        K r36 σ35)) ∧
    (r5 = false →
      C_X9_fail l G d v0 1 σ4 fun r38 σ37 =>
      K r38 σ37)) ∧
  (r2 = false →
    K false σ1)
set_option maxRecDepth 100000 in
set_option maxHeartbeats 4000000 in
theorem b_X9_readJug_0 {l : Launch} {G : GG} {d : Nat} {v0 : Nat} {σ : Hp} {K : Bool → Hp → Prop} (hf : F_X9_readJug l G d v0 σ K) : Wd l G (d + 1) "CoinsLaid$Telling" yX9_readJug cX9_readJug 3 (some FieldType.boolean) 0 [(0, aR (some v0))] [] σ 0 0 (xM (QZ K)) := by
  unfold F_X9_readJug at hf
  refine r_aload_n (j := 0) rfl rfl dX9_readJug_0 ?_
  refine r_iconst (v := 1) (by decide) dX9_readJug_1 ?_
  try unfold C_X9_passFirstWord at hf
  obtain ⟨⟨fs_r2, ha_r2⟩, hf⟩ := hf
  refine r_invVZ (t := 9) (As := [aI (bi true)]) (dz := d) (mz := 0) (sz := 0) rfl wd_2_226 wd_2_228 wd_p_8 cf_X9_passFirstWord (Nat.le_refl _) (Nat.zero_le _) (Nat.zero_le _) (cat_ok (Nat.le_of_ble_eq_true rfl)) rfl rfl ha_r2 dX9_readJug_2 hf (fun r2 σ1 hk => ?_)
  replace hf := hk
  clear hk
  refine r_ifneZ (b := r2) (tgt := 10) (by decide) dX9_readJug_5 (fun hc => ?_) (fun hc => ?_)
  · replace hf := hf.1 hc
    refine r_aload_n (j := 0) rfl rfl dX9_readJug_10 ?_
    obtain ⟨fs_x3, x3, ha_x3, hv_x3, hf⟩ := hf
    refine r_get (Cn := RX9) (Tt := TX9) (N := 8) (n := 0) rfl uw_X9 (Nat.le_of_ble_eq_true rfl) wd_2_102 ha_x3 hv_x3 dX9_readJug_11 ?_
    try unfold C_X10_isName at hf
    obtain ⟨⟨fs_r5, ha_r5⟩, hf⟩ := hf
    refine r_invVZ (t := 10) (As := []) (dz := d) (mz := 0) (sz := 0) rfl wd_2_234 wd_2_235 wd_2_236 cf_X10_isName (Nat.le_refl _) (Nat.zero_le _) (Nat.zero_le _) (cat_ok (Nat.le_of_ble_eq_true rfl)) rfl rfl ha_r5 dX9_readJug_14 hf (fun r5 σ4 hk => ?_)
    replace hf := hk
    clear hk
    refine r_ifneZ (b := r5) (tgt := 26) (by decide) dX9_readJug_17 (fun hc => ?_) (fun hc => ?_)
    · replace hf := hf.1 hc
      refine r_aload_n (j := 0) rfl rfl dX9_readJug_26 ?_
      obtain ⟨fs_x6, x6, ha_x6, hv_x6, hf⟩ := hf
      refine r_get (Cn := RX9) (Tt := TX9) (N := 8) (n := 2) rfl uw_X9 (Nat.le_of_ble_eq_true rfl) wd_2_104 ha_x6 hv_x6 dX9_readJug_27 ?_
      refine r_aload_n (j := 0) rfl rfl dX9_readJug_30 ?_
      obtain ⟨fs_x7, x7, ha_x7, hv_x7, hf⟩ := hf
      refine r_get (Cn := RX9) (Tt := TX9) (N := 8) (n := 0) rfl uw_X9 (Nat.le_of_ble_eq_true rfl) wd_2_102 ha_x7 hv_x7 dX9_readJug_31 ?_
      try unfold C_X10_wordCode at hf
      obtain ⟨⟨fs_r9, ha_r9⟩, hf⟩ := hf
      refine r_invVJ (t := 10) (As := []) (dz := d) (mz := 0) (sz := 0) rfl wd_3_4 wd_3_5 wd_3_6 cf_X10_wordCode (Nat.le_refl _) (Nat.zero_le _) (Nat.zero_le _) (cat_ok (Nat.le_of_ble_eq_true rfl)) rfl rfl ha_r9 dX9_readJug_34 hf (fun r9 σ8 hk => ?_)
      replace hf := hk
      clear hk
      try unfold C_X8_boardNamed at hf
      obtain ⟨⟨fs_r11, ha_r11⟩, hf⟩ := hf
      refine r_invVR (t := 8) (As := [aJ r9]) (dz := d) (mz := 0) (sz := 0) rfl wd_3_148 wd_3_28 wd_3_29 cf_X8_boardNamed (Nat.le_refl _) (Nat.zero_le _) (Nat.zero_le _) (cat_ok (Nat.le_of_ble_eq_true rfl)) rfl rfl ha_r11 dX9_readJug_37 hf (fun r11 σ10 hk => ?_)
      replace hf := hk
      clear hk
      refine r_astore_n (L' := [(1, aR r11), (0, aR (some v0))]) rfl rfl (Nat.le_of_ble_eq_true rfl) dX9_readJug_40 ?_
      refine r_aload_n (j := 0) rfl rfl dX9_readJug_41 ?_
      refine r_ifnonnull (o := r11) (tgt := 51) (by decide) dX9_readJug_42 (fun b12 hc => ?_) (fun hc => ?_)
      · replace hf := hf.1 b12 hc
        subst hc
        refine r_aload_n (j := 1) rfl rfl dX9_readJug_51 ?_
        obtain ⟨fs_x13, x13, ha_x13, hv_x13, hf⟩ := hf
        refine r_get (Cn := RX9) (Tt := TX9) (N := 8) (n := 0) rfl uw_X9 (Nat.le_of_ble_eq_true rfl) wd_2_102 ha_x13 hv_x13 dX9_readJug_52 ?_
        try unfold C_X10_advance at hf
        obtain ⟨⟨fs_r15, ha_r15⟩, hf⟩ := hf
        refine r_invVU (t := 10) (As := []) (dz := d) (mz := 0) (sz := 0) rfl wd_2_134 wd_2_135 wd_2_136 cf_X10_advance (Nat.le_refl _) (Nat.zero_le _) (Nat.zero_le _) (cat_ok (Nat.le_of_ble_eq_true rfl)) rfl rfl ha_r15 dX9_readJug_55 hf (fun σ14 hk => ?_)
        replace hf := hk
        clear hk
        refine r_aload_n (j := 1) rfl rfl dX9_readJug_58 ?_
        refine r_iconst (v := 0) (by decide) dX9_readJug_59 ?_
        refine r_aload_n (j := 0) rfl rfl dX9_readJug_60 ?_
        obtain ⟨fs_x16, x16, ha_x16, hv_x16, hf⟩ := hf
        refine r_get (Cn := RX0) (Tt := TX0) (N := 5) (n := 2) rfl uw_X0 (Nat.le_of_ble_eq_true rfl) wd_3_62 ha_x16 hv_x16 dX9_readJug_61 ?_
        refine r_iconst (v := 1) (by decide) dX9_readJug_64 ?_
        refine r_isub (x := x16) (y := 1) dX9_readJug_65 ?_
        refine r_aload_n (j := 0) rfl rfl dX9_readJug_66 ?_
        obtain ⟨fs_x17, x17, ha_x17, hv_x17, hf⟩ := hf
        refine r_get (Cn := RX0) (Tt := TX0) (N := 5) (n := 3) rfl uw_X0 (Nat.le_of_ble_eq_true rfl) wd_3_66 ha_x17 hv_x17 dX9_readJug_67 ?_
        refine r_iconst (v := 1) (by decide) dX9_readJug_70 ?_
        refine r_isub (x := x17) (y := 1) dX9_readJug_71 ?_
        try unfold C_X9_readPair at hf
        obtain ⟨⟨fs_r19, ha_r19⟩, hf⟩ := hf
        refine r_invVZ (t := 9) (As := [aI 0, aI (x16 - 1), aI (x17 - 1)]) (dz := d) (mz := 0) (sz := 0) rfl wd_3_149 wd_3_151 wd_p_16 cf_X9_readPair (Nat.le_refl _) (Nat.zero_le _) (Nat.zero_le _) (cat_ok (Nat.le_of_ble_eq_true rfl)) rfl rfl ha_r19 dX9_readJug_72 hf (fun r19 σ18 hk => ?_)
        replace hf := hk
        clear hk
        refine r_ifneZ (b := r19) (tgt := 80) (by decide) dX9_readJug_75 (fun hc => ?_) (fun hc => ?_)
        · replace hf := hf.1 hc
          refine r_aload_n (j := 0) rfl rfl dX9_readJug_80 ?_
          refine r_aload_n (j := 1) rfl rfl dX9_readJug_81 ?_
          obtain ⟨fs_x20, x20, ha_x20, hv_x20, hf⟩ := hf
          refine r_get (Cn := RX9) (Tt := TX9) (N := 8) (n := 6) rfl uw_X9 (Nat.le_of_ble_eq_true rfl) wd_2_111 ha_x20 hv_x20 dX9_readJug_82 ?_
          refine r_aload_n (j := 1) rfl rfl dX9_readJug_85 ?_
          obtain ⟨fs_x21, x21, ha_x21, hv_x21, hf⟩ := hf
          refine r_get (Cn := RX9) (Tt := TX9) (N := 8) (n := 7) rfl uw_X9 (Nat.le_of_ble_eq_true rfl) wd_2_112 ha_x21 hv_x21 dX9_readJug_86 ?_
          try unfold C_X0_bit at hf
          obtain ⟨⟨fs_r23, ha_r23⟩, hf⟩ := hf
          refine r_invVI (t := 0) (As := [aI x20, aI x21]) (dz := d) (mz := 0) (sz := 0) rfl wd_3_161 wd_3_162 wd_3_163 cf_X0_bit (Nat.le_refl _) (Nat.zero_le _) (Nat.zero_le _) (cat_ok (Nat.le_of_ble_eq_true rfl)) rfl rfl ha_r23 dX9_readJug_89 hf (fun r23 σ22 hk => ?_)
          replace hf := hk
          clear hk
          refine r_istore_n (L' := [(2, aI r23), (1, aR (some b12)), (0, aR (some v0))]) rfl rfl (Nat.le_of_ble_eq_true rfl) dX9_readJug_92 ?_
          refine r_aload_n (j := 2) rfl rfl dX9_readJug_93 ?_
          obtain ⟨fs_x24, x24, ha_x24, hv_x24, hf⟩ := hf
          refine r_get (Cn := RX9) (Tt := TX9) (N := 8) (n := 2) rfl uw_X9 (Nat.le_of_ble_eq_true rfl) wd_2_104 ha_x24 hv_x24 dX9_readJug_94 ?_
          obtain ⟨fs_x25, x25, ha_x25, hv_x25, hf⟩ := hf
          refine r_get (Cn := RX8) (Tt := TX8) (N := 9) (n := 6) rfl uw_X8 (Nat.le_of_ble_eq_true rfl) wd_2_73 ha_x25 hv_x25 dX9_readJug_97 ?_
          refine r_iload_n (j := 0) rfl rfl dX9_readJug_100 ?_
          refine r_iand (x := x25) (y := r23) dX9_readJug_101 ?_
          refine r_ifeq (x := (x25 &&& r23)) (tgt := 111) (by decide) dX9_readJug_102 (fun hc => ?_) (fun hc => ?_)
          · replace hf := hf.1 hc
            refine r_aload_n (j := 2) rfl rfl dX9_readJug_111 ?_
            obtain ⟨fs_x26, x26, ha_x26, hv_x26, hf⟩ := hf
            refine r_get (Cn := RX9) (Tt := TX9) (N := 8) (n := 2) rfl uw_X9 (Nat.le_of_ble_eq_true rfl) wd_2_104 ha_x26 hv_x26 dX9_readJug_112 ?_
            refine r_dup rfl dX9_readJug_115 ?_
            obtain ⟨fs_x27, x27, ha_x27, hv_x27, hf⟩ := hf
            refine r_get (Cn := RX8) (Tt := TX8) (N := 9) (n := 6) rfl uw_X8 (Nat.le_of_ble_eq_true rfl) wd_2_73 ha_x27 hv_x27 dX9_readJug_116 ?_
            refine r_iload_n (j := 0) rfl rfl dX9_readJug_119 ?_
            refine r_ior (x := x27) (y := r23) dX9_readJug_120 ?_
            obtain ⟨fs_x29, ha_x29, hf⟩ := hf
            generalize hσ28 : hset σ22 x26 (.inl (8, fs_x29.set 6 (aI (x27 ||| r23)))) = σ28 at hf
            refine r_put (Cn := RX8) (Tt := TX8) (N := 9) (n := 6) (v := aI (x27 ||| r23)) rfl uw_X8 (Nat.le_of_ble_eq_true rfl) wd_2_73 ha_x29 (ty0 := tyX8) tyX8_ok nmX8 rfl (fo_I (x27 ||| r23)) dX9_readJug_121 ?_
            rw [hσ28]
            refine r_aload_n (j := 2) rfl rfl dX9_readJug_124 ?_
            obtain ⟨fs_x30, x30, ha_x30, hv_x30, hf⟩ := hf
            refine r_get (Cn := RX9) (Tt := TX9) (N := 8) (n := 0) rfl uw_X9 (Nat.le_of_ble_eq_true rfl) wd_2_102 ha_x30 hv_x30 dX9_readJug_125 ?_
            try unfold C_X10_advance at hf
            obtain ⟨⟨fs_r32, ha_r32⟩, hf⟩ := hf
            refine r_invVU (t := 10) (As := []) (dz := d) (mz := 0) (sz := 0) rfl wd_2_134 wd_2_135 wd_2_136 cf_X10_advance (Nat.le_refl _) (Nat.zero_le _) (Nat.zero_le _) (cat_ok (Nat.le_of_ble_eq_true rfl)) rfl rfl ha_r32 dX9_readJug_128 hf (fun σ31 hk => ?_)
            replace hf := hk
            clear hk
            refine r_iconst (v := 1) (by decide) dX9_readJug_131 ?_
            exact r_zreturn (b := true) rfl dX9_readJug_132 rfl ⟨_, rfl, hf⟩
          · replace hf := hf.2 hc
            refine r_aload_n (j := 2) rfl rfl dX9_readJug_105 ?_
            refine r_iconst (v := 3) (by decide) dX9_readJug_106 ?_
            try unfold C_X9_fail at hf
            obtain ⟨⟨fs_r34, ha_r34⟩, hf⟩ := hf
            refine r_invVZ (t := 9) (As := [aI 3]) (dz := d) (mz := 0) (sz := 0) rfl wd_2_206 wd_2_208 wd_p_5 cf_X9_fail (Nat.le_refl _) (Nat.zero_le _) (Nat.zero_le _) (cat_ok (Nat.le_of_ble_eq_true rfl)) rfl rfl ha_r34 dX9_readJug_107 hf (fun r34 σ33 hk => ?_)
            replace hf := hk
            clear hk
            exact r_zreturn (b := r34) rfl dX9_readJug_110 rfl ⟨_, rfl, hf⟩
        · replace hf := hf.2 hc
          refine r_iconst (v := 0) (by decide) dX9_readJug_78 ?_
          exact r_zreturn (b := false) rfl dX9_readJug_79 rfl ⟨_, rfl, hf⟩
      · replace hf := hf.2 hc
        subst hc
        refine r_aload_n (j := 1) rfl rfl dX9_readJug_45 ?_
        refine r_iconst (v := 2) (by decide) dX9_readJug_46 ?_
        try unfold C_X9_fail at hf
        obtain ⟨⟨fs_r36, ha_r36⟩, hf⟩ := hf
        refine r_invVZ (t := 9) (As := [aI 2]) (dz := d) (mz := 0) (sz := 0) rfl wd_2_206 wd_2_208 wd_p_5 cf_X9_fail (Nat.le_refl _) (Nat.zero_le _) (Nat.zero_le _) (cat_ok (Nat.le_of_ble_eq_true rfl)) rfl rfl ha_r36 dX9_readJug_47 hf (fun r36 σ35 hk => ?_)
        replace hf := hk
        clear hk
        exact r_zreturn (b := r36) rfl dX9_readJug_50 rfl ⟨_, rfl, hf⟩
    · replace hf := hf.2 hc
      refine r_aload_n (j := 0) rfl rfl dX9_readJug_20 ?_
      refine r_iconst (v := 1) (by decide) dX9_readJug_21 ?_
      try unfold C_X9_fail at hf
      obtain ⟨⟨fs_r38, ha_r38⟩, hf⟩ := hf
      refine r_invVZ (t := 9) (As := [aI 1]) (dz := d) (mz := 0) (sz := 0) rfl wd_2_206 wd_2_208 wd_p_5 cf_X9_fail (Nat.le_refl _) (Nat.zero_le _) (Nat.zero_le _) (cat_ok (Nat.le_of_ble_eq_true rfl)) rfl rfl ha_r38 dX9_readJug_22 hf (fun r38 σ37 hk => ?_)
      replace hf := hk
      clear hk
      exact r_zreturn (b := r38) rfl dX9_readJug_25 rfl ⟨_, rfl, hf⟩
  · replace hf := hf.2 hc
    refine r_iconst (v := 0) (by decide) dX9_readJug_8 ?_
    exact r_zreturn (b := false) rfl dX9_readJug_9 rfl ⟨_, rfl, hf⟩
theorem m_X9_readJug {l : Launch} {G : GG} {d : Nat} {v0 : Nat} {σ : Hp} {K : Bool → Hp → Prop} (hr : rv σ v0 9) (hf : F_X9_readJug l G d v0 σ K) : C_X9_readJug l G (d + 1) v0 σ K := ⟨hr, Sp.of (by decide) (Nat.le_of_ble_eq_true rfl) (b_X9_readJug_0 hf) rfl⟩
def F_X9_readPiece_33 (l : Launch) (G : GG) (d : Nat) (σ : Hp) (bc bs : Nat) (K : Bool → Hp → Prop) : Prop :=
  K false σ
set_option maxRecDepth 100000 in
set_option maxHeartbeats 4000000 in
theorem b_X9_readPiece_33 {l : Launch} {G : GG} {d : Nat} {σ : Hp} {bc bs : Nat} {K : Bool → Hp → Prop} (hf : F_X9_readPiece_33 l G d  σ bc bs K) : Wd l G (d + 1) "CoinsLaid$Telling" yX9_readPiece cX9_readPiece 4 (some FieldType.boolean) 33 [] [] σ bc bs (xM (QZ K)) := by
  unfold F_X9_readPiece_33 at hf
  refine r_iconst (v := 0) (by decide) dX9_readPiece_33 ?_
  exact r_zreturn (b := false) rfl dX9_readPiece_34 rfl ⟨_, rfl, hf⟩
def F_X9_readPiece_113 (l : Launch) (G : GG) (d : Nat) (v0 : Nat) (v1 : Int32) (σ : Hp) (bc bs : Nat) (K : Bool → Hp → Prop) : Prop :=
  nO σ 5 [aI 0, aJ 0, aI 0, aI 0, aI 0, aI (bi false), aI 0] 7 bc bs fun q1 σ2 =>
  fN σ2 v0 9 2 fun x3 =>
  fN σ2 x3 8 4 fun x4 =>
  C_Jx4a65c_size_8abf5 l G d x4 σ2 fun r6 σ5 =>
  fJ σ5 v0 9 5 fun x7 =>
  fI σ5 v0 9 6 fun x8 =>
  fI σ5 v0 9 7 fun x9 =>
  C_X5_init l G d q1 r6 x7 v1 x8 x9 σ5 fun σ10 =>
  C_X9_passPerhaps l G d v0 (gK G 17) σ10 fun r13 σ12 =>
  pF σ12 q1 5 5 (aI (bi r13)) fun σ14 =>
  C_X9_ownerTold l G d v0 σ14 fun r17 σ16 =>
  pF σ16 q1 5 6 (aI r17) fun σ18 =>
  fN σ18 v0 9 2 fun x20 =>
  fN σ18 x20 8 4 fun x21 =>
  ∃ mz24 sz25, mz24 ≤ (bc - 1) ∧ sz25 ≤ (bs - 7) ∧ C_Jx4a65c_add_9ea2d l G d mz24 sz25 x21 q1 σ18 fun r23 σ22 =>
  K true σ22
set_option maxRecDepth 100000 in
set_option maxHeartbeats 4000000 in
theorem b_X9_readPiece_113 {l : Launch} {G : GG} {d : Nat} {v0 : Nat} {v1 : Int32} {σ : Hp} {bc bs : Nat} {K : Bool → Hp → Prop} (hf : F_X9_readPiece_113 l G d v0 v1 σ bc bs K) : Wd l G (d + 1) "CoinsLaid$Telling" yX9_readPiece cX9_readPiece 4 (some FieldType.boolean) 113 [(0, aR (some v0)), (1, aI v1)] [] σ bc bs (xM (QZ K)) := by
  unfold F_X9_readPiece_113 at hf
  obtain ⟨hbc, hbs, hf⟩ := hf
  refine r_new (t := 5) (Cn := RX5) (Tt := TX5) (N := 7) (fs := [aI 0, aJ 0, aI 0, aI 0, aI 0, aI (bi false), aI 0]) (ty0 := tyX5) rfl uw_X5 tyX5_ok wd_3_177 wd_3_178 wd_1_24 rfl dfv_X5 hbc hbs dX9_readPiece_113 (fun q1 hq_q1 => ?_)
  replace hf := hf q1 hq_q1
  generalize hset σ q1 (.inl (5, [aI 0, aJ 0, aI 0, aI 0, aI 0, aI (bi false), aI 0])) = σ2 at hf ⊢
  refine r_dup rfl dX9_readPiece_116 ?_
  refine r_aload_n (j := 0) rfl rfl dX9_readPiece_117 ?_
  obtain ⟨fs_x3, x3, ha_x3, hv_x3, hf⟩ := hf
  refine r_get (Cn := RX9) (Tt := TX9) (N := 8) (n := 2) rfl uw_X9 (Nat.le_of_ble_eq_true rfl) wd_2_104 ha_x3 hv_x3 dX9_readPiece_118 ?_
  obtain ⟨fs_x4, x4, ha_x4, hv_x4, hf⟩ := hf
  refine r_get (Cn := RX8) (Tt := TX8) (N := 9) (n := 4) rfl uw_X8 (Nat.le_of_ble_eq_true rfl) wd_2_67 ha_x4 hv_x4 dX9_readPiece_121 ?_
  try unfold C_Jx4a65c_size_8abf5 at hf
  obtain ⟨⟨fs_r6, ha_r6⟩, hf⟩ := hf
  refine r_invVI (t := 13) (As := []) (dz := d) (mz := 0) (sz := 0) rfl wd_2_222 wd_2_223 wd_2_224 cf_Jx4a65c_size_8abf5 (Nat.le_refl _) (Nat.zero_le _) (Nat.zero_le _) (cat_ok (Nat.le_of_ble_eq_true rfl)) rfl rfl ha_r6 dX9_readPiece_124 hf (fun r6 σ5 hk => ?_)
  replace hf := hk
  clear hk
  refine r_aload_n (j := 0) rfl rfl dX9_readPiece_127 ?_
  obtain ⟨fs_x7, x7, ha_x7, hv_x7, hf⟩ := hf
  refine r_get (Cn := RX9) (Tt := TX9) (N := 8) (n := 5) rfl uw_X9 (Nat.le_of_ble_eq_true rfl) wd_2_110 ha_x7 hv_x7 dX9_readPiece_128 ?_
  refine r_iload_n (j := 1) rfl rfl dX9_readPiece_131 ?_
  refine r_aload_n (j := 0) rfl rfl dX9_readPiece_132 ?_
  obtain ⟨fs_x8, x8, ha_x8, hv_x8, hf⟩ := hf
  refine r_get (Cn := RX9) (Tt := TX9) (N := 8) (n := 6) rfl uw_X9 (Nat.le_of_ble_eq_true rfl) wd_2_111 ha_x8 hv_x8 dX9_readPiece_133 ?_
  refine r_aload_n (j := 0) rfl rfl dX9_readPiece_136 ?_
  obtain ⟨fs_x9, x9, ha_x9, hv_x9, hf⟩ := hf
  refine r_get (Cn := RX9) (Tt := TX9) (N := 8) (n := 7) rfl uw_X9 (Nat.le_of_ble_eq_true rfl) wd_2_112 ha_x9 hv_x9 dX9_readPiece_137 ?_
  try unfold C_X5_init at hf
  refine r_invIU (As := [aI r6, aJ x7, aI v1, aI x8, aI x9]) (dz := d) (mz := 0) (sz := 0) rfl wd_3_179 wd_3_180 rfl rfl cf_X5_init (Nat.le_refl _) (Nat.zero_le _) (Nat.zero_le _) (cat_ok (Nat.le_of_ble_eq_true rfl)) dX9_readPiece_140 hf (fun σ10 hk => ?_)
  replace hf := hk
  clear hk
  refine r_astore_n (L' := [(2, aR (some q1)), (0, aR (some v0)), (1, aI v1)]) rfl rfl (Nat.le_of_ble_eq_true rfl) dX9_readPiece_143 ?_
  refine r_aload_n (j := 0) rfl rfl dX9_readPiece_144 ?_
  refine r_aload_n (j := 1) rfl rfl dX9_readPiece_145 ?_
  refine r_ldcS (j := 17) rfl dX9_readPiece_146 ?_
  try unfold C_X9_passPerhaps at hf
  obtain ⟨⟨fs_r13, ha_r13⟩, hf⟩ := hf
  refine r_invVZ (t := 9) (As := [aR (some (gK G 17))]) (dz := d) (mz := 0) (sz := 0) rfl wd_2_213 wd_2_215 wd_p_6 cf_X9_passPerhaps (Nat.le_refl _) (Nat.zero_le _) (Nat.zero_le _) (cat_ok (Nat.le_of_ble_eq_true rfl)) rfl rfl ha_r13 dX9_readPiece_148 hf (fun r13 σ12 hk => ?_)
  replace hf := hk
  clear hk
  obtain ⟨fs_x15, ha_x15, hf⟩ := hf
  generalize hσ14 : hset σ12 q1 (.inl (5, fs_x15.set 5 (aI (bi r13)))) = σ14 at hf
  refine r_put (Cn := RX5) (Tt := TX5) (N := 7) (n := 5) (v := aI (bi r13)) rfl uw_X5 (Nat.le_of_ble_eq_true rfl) wd_3_192 ha_x15 (ty0 := tyX5) tyX5_ok nmX5 rfl (fo_Z r13) dX9_readPiece_151 ?_
  rw [hσ14]
  refine r_aload_n (j := 0) rfl rfl dX9_readPiece_154 ?_
  refine r_aload_n (j := 1) rfl rfl dX9_readPiece_155 ?_
  try unfold C_X9_ownerTold at hf
  obtain ⟨⟨fs_r17, ha_r17⟩, hf⟩ := hf
  refine r_invVI (t := 9) (As := []) (dz := d) (mz := 0) (sz := 0) rfl wd_3_213 wd_3_215 wd_p_20 cf_X9_ownerTold (Nat.le_refl _) (Nat.zero_le _) (Nat.zero_le _) (cat_ok (Nat.le_of_ble_eq_true rfl)) rfl rfl ha_r17 dX9_readPiece_156 hf (fun r17 σ16 hk => ?_)
  replace hf := hk
  clear hk
  obtain ⟨fs_x19, ha_x19, hf⟩ := hf
  generalize hσ18 : hset σ16 q1 (.inl (5, fs_x19.set 6 (aI r17))) = σ18 at hf
  refine r_put (Cn := RX5) (Tt := TX5) (N := 7) (n := 6) (v := aI r17) rfl uw_X5 (Nat.le_of_ble_eq_true rfl) wd_3_195 ha_x19 (ty0 := tyX5) tyX5_ok nmX5 rfl (fo_I r17) dX9_readPiece_159 ?_
  rw [hσ18]
  refine r_aload_n (j := 1) rfl rfl dX9_readPiece_162 ?_
  obtain ⟨fs_x20, x20, ha_x20, hv_x20, hf⟩ := hf
  refine r_get (Cn := RX9) (Tt := TX9) (N := 8) (n := 2) rfl uw_X9 (Nat.le_of_ble_eq_true rfl) wd_2_104 ha_x20 hv_x20 dX9_readPiece_163 ?_
  obtain ⟨fs_x21, x21, ha_x21, hv_x21, hf⟩ := hf
  refine r_get (Cn := RX8) (Tt := TX8) (N := 9) (n := 4) rfl uw_X8 (Nat.le_of_ble_eq_true rfl) wd_2_67 ha_x21 hv_x21 dX9_readPiece_166 ?_
  refine r_aload_n (j := 0) rfl rfl dX9_readPiece_169 ?_
  obtain ⟨mz24, sz25, hbc, hbs, hf⟩ := hf
  try unfold C_Jx4a65c_add_9ea2d at hf
  obtain ⟨⟨fs_r23, ha_r23⟩, hf⟩ := hf
  refine r_invVZ (t := 13) (As := [aR (some q1)]) (dz := d) (mz := mz24) (sz := sz25) rfl wd_3_219 wd_3_82 wd_3_83 cf_Jx4a65c_add_9ea2d (Nat.le_refl _) hbc hbs (cat_ok (Nat.le_of_ble_eq_true rfl)) rfl rfl ha_r23 dX9_readPiece_170 hf (fun r23 σ22 hk => ?_)
  replace hf := hk
  clear hk
  refine r_pop rfl dX9_readPiece_173 ?_
  refine r_iconst (v := 1) (by decide) dX9_readPiece_174 ?_
  exact r_zreturn (b := true) rfl dX9_readPiece_175 rfl ⟨_, rfl, hf⟩
def F_X9_readPiece_93 (l : Launch) (G : GG) (d : Nat) (v0 : Nat) (v1 : Int32) (v2 : Int32) (s0 : Int32) (σ : Hp) (bc bs : Nat) (K : Bool → Hp → Prop) : Prop :=
  C_X9_readPair l G d v0 v2 s0 s0 σ fun r27 σ26 =>
  (r27 = true →
    fN σ26 v0 9 0 fun x28 =>
    C_X10_advance l G d x28 σ26 fun σ29 =>
    F_X9_readPiece_113 l G d v0 v1 σ29 bc bs K) ∧
  (r27 = false →
    K false σ26)
set_option maxRecDepth 100000 in
set_option maxHeartbeats 4000000 in
theorem b_X9_readPiece_93 {l : Launch} {G : GG} {d : Nat} {v0 : Nat} {v1 : Int32} {v2 : Int32} {s0 : Int32} {σ : Hp} {bc bs : Nat} {K : Bool → Hp → Prop} (hf : F_X9_readPiece_93 l G d v0 v1 v2 s0 σ bc bs K) : Wd l G (d + 1) "CoinsLaid$Telling" yX9_readPiece cX9_readPiece 4 (some FieldType.boolean) 93 [(0, aR (some v0)), (1, aI v1), (2, aI v2)] [aI s0] σ bc bs (xM (QZ K)) := by
  unfold F_X9_readPiece_93 at hf
  refine r_istore_n (L' := [(3, aI s0), (0, aR (some v0)), (1, aI v1), (2, aI v2)]) rfl rfl (Nat.le_of_ble_eq_true rfl) dX9_readPiece_93 ?_
  refine r_aload_n (j := 1) rfl rfl dX9_readPiece_94 ?_
  refine r_iload_n (j := 3) rfl rfl dX9_readPiece_95 ?_
  refine r_iload_n (j := 0) rfl rfl dX9_readPiece_96 ?_
  refine r_iload_n (j := 0) rfl rfl dX9_readPiece_97 ?_
  try unfold C_X9_readPair at hf
  obtain ⟨⟨fs_r27, ha_r27⟩, hf⟩ := hf
  refine r_invVZ (t := 9) (As := [aI v2, aI s0, aI s0]) (dz := d) (mz := 0) (sz := 0) rfl wd_3_149 wd_3_151 wd_p_16 cf_X9_readPair (Nat.le_refl _) (Nat.zero_le _) (Nat.zero_le _) (cat_ok (Nat.le_of_ble_eq_true rfl)) rfl rfl ha_r27 dX9_readPiece_98 hf (fun r27 σ26 hk => ?_)
  replace hf := hk
  clear hk
  refine r_ifneZ (b := r27) (tgt := 106) (by decide) dX9_readPiece_101 (fun hc => ?_) (fun hc => ?_)
  · replace hf := hf.1 hc
    refine r_aload_n (j := 1) rfl rfl dX9_readPiece_106 ?_
    obtain ⟨fs_x28, x28, ha_x28, hv_x28, hf⟩ := hf
    refine r_get (Cn := RX9) (Tt := TX9) (N := 8) (n := 0) rfl uw_X9 (Nat.le_of_ble_eq_true rfl) wd_2_102 ha_x28 hv_x28 dX9_readPiece_107 ?_
    try unfold C_X10_advance at hf
    obtain ⟨⟨fs_r30, ha_r30⟩, hf⟩ := hf
    refine r_invVU (t := 10) (As := []) (dz := d) (mz := 0) (sz := 0) rfl wd_2_134 wd_2_135 wd_2_136 cf_X10_advance (Nat.le_refl _) (Nat.zero_le _) (Nat.zero_le _) (cat_ok (Nat.le_of_ble_eq_true rfl)) rfl rfl ha_r30 dX9_readPiece_110 hf (fun σ29 hk => ?_)
    replace hf := hk
    clear hk
    exact r_sub [1, 2] rfl (b_X9_readPiece_113 hf)
  · replace hf := hf.2 hc
    refine r_iconst (v := 0) (by decide) dX9_readPiece_104 ?_
    exact r_zreturn (b := false) rfl dX9_readPiece_105 rfl ⟨_, rfl, hf⟩
def F_X9_readPiece_82 (l : Launch) (G : GG) (d : Nat) (v0 : Nat) (v1 : Int32) (s0 : Int32) (σ : Hp) (bc bs : Nat) (K : Bool → Hp → Prop) : Prop :=
  (¬ (v1 : Int32) = (2 : Int32) →
    F_X9_readPiece_93 l G d v0 v1 s0 4 σ bc bs K) ∧
  ((v1 : Int32) = (2 : Int32) →
    F_X9_readPiece_93 l G d v0 v1 s0 3 σ bc bs K)
set_option maxRecDepth 100000 in
set_option maxHeartbeats 4000000 in
theorem b_X9_readPiece_82 {l : Launch} {G : GG} {d : Nat} {v0 : Nat} {v1 : Int32} {s0 : Int32} {σ : Hp} {bc bs : Nat} {K : Bool → Hp → Prop} (hf : F_X9_readPiece_82 l G d v0 v1 s0 σ bc bs K) : Wd l G (d + 1) "CoinsLaid$Telling" yX9_readPiece cX9_readPiece 4 (some FieldType.boolean) 82 [(0, aR (some v0)), (1, aI v1)] [aI s0] σ bc bs (xM (QZ K)) := by
  unfold F_X9_readPiece_82 at hf
  refine r_istore_n (L' := [(2, aI s0), (0, aR (some v0)), (1, aI v1)]) rfl rfl (Nat.le_of_ble_eq_true rfl) dX9_readPiece_82 ?_
  refine r_iload_n (j := 2) rfl rfl dX9_readPiece_83 ?_
  refine r_iconst (v := 2) (by decide) dX9_readPiece_84 ?_
  refine r_icmpne (x := v1) (y := 2) (tgt := 92) (by decide) dX9_readPiece_85 (fun hc => ?_) (fun hc => ?_)
  · replace hf := hf.1 hc
    refine r_iconst (v := 4) (by decide) dX9_readPiece_92 ?_
    exact r_sub [1, 2, 0] rfl (b_X9_readPiece_93 hf)
  · replace hf := hf.2 hc
    refine r_iconst (v := 3) (by decide) dX9_readPiece_88 ?_
    refine r_goto (tgt := 93) (by decide) dX9_readPiece_89 ?_
    exact r_sub [1, 2, 0] rfl (b_X9_readPiece_93 hf)
def F_X9_readPiece_20 (l : Launch) (G : GG) (d : Nat) (v0 : Nat) (s0 : Nat) (s1 : Bool) (σ : Hp) (bc bs : Nat) (K : Bool → Hp → Prop) : Prop :=
  C_X9_passFirstWord l G d s0 s1 σ fun r32 σ31 =>
  (r32 = false →
    F_X9_readPiece_33 l G d σ31 bc bs K) ∧
  (r32 = true →
    C_X9_passNewName l G d v0 σ31 fun r34 σ33 =>
    (r34 = true →
      C_X9_kindTold l G d v0 σ33 fun r36 σ35 =>
      (¬ (r36 : Int32) = ((-1) : Int32) →
        fN σ35 v0 9 0 fun x37 =>
        C_X10_advance l G d x37 σ35 fun σ38 =>
        pF σ38 v0 9 6 (aI 1) fun σ40 =>
        pF σ40 v0 9 7 (aI 1) fun σ42 =>
        ((r36 : Int32) = 0 →
          F_X9_readPiece_113 l G d v0 r36 σ42 bc bs K) ∧
        (¬ (r36 : Int32) = 0 →
          (¬ (r36 : Int32) = (2 : Int32) →
            F_X9_readPiece_82 l G d v0 r36 1 σ42 bc bs K) ∧
          ((r36 : Int32) = (2 : Int32) →
            F_X9_readPiece_82 l G d v0 r36 2 σ42 bc bs K))) ∧
      ((r36 : Int32) = ((-1) : Int32) →
        C_X9_fail l G d v0 1 σ35 fun r45 σ44 =>
        K r45 σ44)) ∧
    (r34 = false →
      F_X9_readPiece_33 l G d σ33 bc bs K))
set_option maxRecDepth 100000 in
set_option maxHeartbeats 4000000 in
theorem b_X9_readPiece_20 {l : Launch} {G : GG} {d : Nat} {v0 : Nat} {s0 : Nat} {s1 : Bool} {σ : Hp} {bc bs : Nat} {K : Bool → Hp → Prop} (hf : F_X9_readPiece_20 l G d v0 s0 s1 σ bc bs K) : Wd l G (d + 1) "CoinsLaid$Telling" yX9_readPiece cX9_readPiece 4 (some FieldType.boolean) 20 [(0, aR (some v0))] [aI (bi s1), aR (some s0)] σ bc bs (xM (QZ K)) := by
  unfold F_X9_readPiece_20 at hf
  try unfold C_X9_passFirstWord at hf
  obtain ⟨⟨fs_r32, ha_r32⟩, hf⟩ := hf
  refine r_invVZ (t := 9) (As := [aI (bi s1)]) (dz := d) (mz := 0) (sz := 0) rfl wd_2_226 wd_2_228 wd_p_8 cf_X9_passFirstWord (Nat.le_refl _) (Nat.zero_le _) (Nat.zero_le _) (cat_ok (Nat.le_of_ble_eq_true rfl)) rfl rfl ha_r32 dX9_readPiece_20 hf (fun r32 σ31 hk => ?_)
  replace hf := hk
  clear hk
  refine r_ifeqZ (b := r32) (tgt := 33) (by decide) dX9_readPiece_23 (fun hc => ?_) (fun hc => ?_)
  · replace hf := hf.1 hc
    exact r_sub [] rfl (b_X9_readPiece_33 hf)
  · replace hf := hf.2 hc
    refine r_aload_n (j := 0) rfl rfl dX9_readPiece_26 ?_
    try unfold C_X9_passNewName at hf
    obtain ⟨⟨fs_r34, ha_r34⟩, hf⟩ := hf
    refine r_invVZ (t := 9) (As := []) (dz := d) (mz := 0) (sz := 0) rfl wd_2_230 wd_2_232 wd_p_9 cf_X9_passNewName (Nat.le_refl _) (Nat.zero_le _) (Nat.zero_le _) (cat_ok (Nat.le_of_ble_eq_true rfl)) rfl rfl ha_r34 dX9_readPiece_27 hf (fun r34 σ33 hk => ?_)
    replace hf := hk
    clear hk
    refine r_ifneZ (b := r34) (tgt := 35) (by decide) dX9_readPiece_30 (fun hc => ?_) (fun hc => ?_)
    · replace hf := hf.1 hc
      refine r_aload_n (j := 0) rfl rfl dX9_readPiece_35 ?_
      try unfold C_X9_kindTold at hf
      obtain ⟨⟨fs_r36, ha_r36⟩, hf⟩ := hf
      refine r_invVI (t := 9) (As := []) (dz := d) (mz := 0) (sz := 0) rfl wd_3_170 wd_3_172 wd_p_19 cf_X9_kindTold (Nat.le_refl _) (Nat.zero_le _) (Nat.zero_le _) (cat_ok (Nat.le_of_ble_eq_true rfl)) rfl rfl ha_r36 dX9_readPiece_36 hf (fun r36 σ35 hk => ?_)
      replace hf := hk
      clear hk
      refine r_istore_n (L' := [(1, aI r36), (0, aR (some v0))]) rfl rfl (Nat.le_of_ble_eq_true rfl) dX9_readPiece_39 ?_
      refine r_iload_n (j := 0) rfl rfl dX9_readPiece_40 ?_
      refine r_iconst (v := (-1)) (by decide) dX9_readPiece_41 ?_
      refine r_icmpne (x := r36) (y := (-1)) (tgt := 51) (by decide) dX9_readPiece_42 (fun hc => ?_) (fun hc => ?_)
      · replace hf := hf.1 hc
        refine r_aload_n (j := 1) rfl rfl dX9_readPiece_51 ?_
        obtain ⟨fs_x37, x37, ha_x37, hv_x37, hf⟩ := hf
        refine r_get (Cn := RX9) (Tt := TX9) (N := 8) (n := 0) rfl uw_X9 (Nat.le_of_ble_eq_true rfl) wd_2_102 ha_x37 hv_x37 dX9_readPiece_52 ?_
        try unfold C_X10_advance at hf
        obtain ⟨⟨fs_r39, ha_r39⟩, hf⟩ := hf
        refine r_invVU (t := 10) (As := []) (dz := d) (mz := 0) (sz := 0) rfl wd_2_134 wd_2_135 wd_2_136 cf_X10_advance (Nat.le_refl _) (Nat.zero_le _) (Nat.zero_le _) (cat_ok (Nat.le_of_ble_eq_true rfl)) rfl rfl ha_r39 dX9_readPiece_55 hf (fun σ38 hk => ?_)
        replace hf := hk
        clear hk
        refine r_aload_n (j := 1) rfl rfl dX9_readPiece_58 ?_
        refine r_iconst (v := 1) (by decide) dX9_readPiece_59 ?_
        obtain ⟨fs_x41, ha_x41, hf⟩ := hf
        generalize hσ40 : hset σ38 v0 (.inl (9, fs_x41.set 6 (aI 1))) = σ40 at hf
        refine r_put (Cn := RX9) (Tt := TX9) (N := 8) (n := 6) (v := aI 1) rfl uw_X9 (Nat.le_of_ble_eq_true rfl) wd_2_111 ha_x41 (ty0 := tyX9) tyX9_ok nmX9 rfl (fo_I 1) dX9_readPiece_60 ?_
        rw [hσ40]
        refine r_aload_n (j := 1) rfl rfl dX9_readPiece_63 ?_
        refine r_iconst (v := 1) (by decide) dX9_readPiece_64 ?_
        obtain ⟨fs_x43, ha_x43, hf⟩ := hf
        generalize hσ42 : hset σ40 v0 (.inl (9, fs_x43.set 7 (aI 1))) = σ42 at hf
        refine r_put (Cn := RX9) (Tt := TX9) (N := 8) (n := 7) (v := aI 1) rfl uw_X9 (Nat.le_of_ble_eq_true rfl) wd_2_112 ha_x43 (ty0 := tyX9) tyX9_ok nmX9 rfl (fo_I 1) dX9_readPiece_65 ?_
        rw [hσ42]
        refine r_iload_n (j := 0) rfl rfl dX9_readPiece_68 ?_
        refine r_ifeq (x := r36) (tgt := 113) (by decide) dX9_readPiece_69 (fun hc => ?_) (fun hc => ?_)
        · replace hf := hf.1 hc
          exact r_sub [1, 0] rfl (b_X9_readPiece_113 hf)
        · replace hf := hf.2 hc
          refine r_iload_n (j := 0) rfl rfl dX9_readPiece_72 ?_
          refine r_iconst (v := 2) (by decide) dX9_readPiece_73 ?_
          refine r_icmpne (x := r36) (y := 2) (tgt := 81) (by decide) dX9_readPiece_74 (fun hc => ?_) (fun hc => ?_)
          · replace hf := hf.1 hc
            refine r_iconst (v := 1) (by decide) dX9_readPiece_81 ?_
            exact r_sub [1, 0] rfl (b_X9_readPiece_82 hf)
          · replace hf := hf.2 hc
            refine r_iconst (v := 2) (by decide) dX9_readPiece_77 ?_
            refine r_goto (tgt := 82) (by decide) dX9_readPiece_78 ?_
            exact r_sub [1, 0] rfl (b_X9_readPiece_82 hf)
      · replace hf := hf.2 hc
        refine r_aload_n (j := 1) rfl rfl dX9_readPiece_45 ?_
        refine r_iconst (v := 1) (by decide) dX9_readPiece_46 ?_
        try unfold C_X9_fail at hf
        obtain ⟨⟨fs_r45, ha_r45⟩, hf⟩ := hf
        refine r_invVZ (t := 9) (As := [aI 1]) (dz := d) (mz := 0) (sz := 0) rfl wd_2_206 wd_2_208 wd_p_5 cf_X9_fail (Nat.le_refl _) (Nat.zero_le _) (Nat.zero_le _) (cat_ok (Nat.le_of_ble_eq_true rfl)) rfl rfl ha_r45 dX9_readPiece_47 hf (fun r45 σ44 hk => ?_)
        replace hf := hk
        clear hk
        exact r_zreturn (b := r45) rfl dX9_readPiece_50 rfl ⟨_, rfl, hf⟩
    · replace hf := hf.2 hc
      exact r_sub [] rfl (b_X9_readPiece_33 hf)
def F_X9_readPiece (l : Launch) (G : GG) (d : Nat) (v0 : Nat) (σ : Hp) (bc bs : Nat) (K : Bool → Hp → Prop) : Prop :=
  fN σ v0 9 2 fun x46 =>
  fN σ x46 8 4 fun x47 =>
  C_Jx4a65c_size_8abf5 l G d x47 σ fun r49 σ48 =>
  ((4 : Int32) ≤ (r49 : Int32) →
    F_X9_readPiece_20 l G d v0 v0 false σ48 bc bs K) ∧
  (¬ (4 : Int32) ≤ (r49 : Int32) →
    F_X9_readPiece_20 l G d v0 v0 true σ48 bc bs K)
set_option maxRecDepth 100000 in
set_option maxHeartbeats 4000000 in
theorem b_X9_readPiece_0 {l : Launch} {G : GG} {d : Nat} {v0 : Nat} {σ : Hp} {bc bs : Nat} {K : Bool → Hp → Prop} (hf : F_X9_readPiece l G d v0 σ bc bs K) : Wd l G (d + 1) "CoinsLaid$Telling" yX9_readPiece cX9_readPiece 4 (some FieldType.boolean) 0 [(0, aR (some v0))] [] σ bc bs (xM (QZ K)) := by
  unfold F_X9_readPiece at hf
  refine r_aload_n (j := 0) rfl rfl dX9_readPiece_0 ?_
  refine r_aload_n (j := 0) rfl rfl dX9_readPiece_1 ?_
  obtain ⟨fs_x46, x46, ha_x46, hv_x46, hf⟩ := hf
  refine r_get (Cn := RX9) (Tt := TX9) (N := 8) (n := 2) rfl uw_X9 (Nat.le_of_ble_eq_true rfl) wd_2_104 ha_x46 hv_x46 dX9_readPiece_2 ?_
  obtain ⟨fs_x47, x47, ha_x47, hv_x47, hf⟩ := hf
  refine r_get (Cn := RX8) (Tt := TX8) (N := 9) (n := 4) rfl uw_X8 (Nat.le_of_ble_eq_true rfl) wd_2_67 ha_x47 hv_x47 dX9_readPiece_5 ?_
  try unfold C_Jx4a65c_size_8abf5 at hf
  obtain ⟨⟨fs_r49, ha_r49⟩, hf⟩ := hf
  refine r_invVI (t := 13) (As := []) (dz := d) (mz := 0) (sz := 0) rfl wd_2_222 wd_2_223 wd_2_224 cf_Jx4a65c_size_8abf5 (Nat.le_refl _) (Nat.zero_le _) (Nat.zero_le _) (cat_ok (Nat.le_of_ble_eq_true rfl)) rfl rfl ha_r49 dX9_readPiece_8 hf (fun r49 σ48 hk => ?_)
  replace hf := hk
  clear hk
  refine r_iconst (v := 4) (by decide) dX9_readPiece_11 ?_
  refine r_icmpge (x := r49) (y := 4) (tgt := 19) (by decide) dX9_readPiece_12 (fun hc => ?_) (fun hc => ?_)
  · replace hf := hf.1 hc
    refine r_iconst (v := 0) (by decide) dX9_readPiece_19 ?_
    exact r_sub [0] rfl (b_X9_readPiece_20 hf)
  · replace hf := hf.2 hc
    refine r_iconst (v := 1) (by decide) dX9_readPiece_15 ?_
    refine r_goto (tgt := 20) (by decide) dX9_readPiece_16 ?_
    exact r_sub [0] rfl (b_X9_readPiece_20 hf)
theorem m_X9_readPiece {l : Launch} {G : GG} {d : Nat} {mc ms : Nat} {v0 : Nat} {σ : Hp} {K : Bool → Hp → Prop} (hr : rv σ v0 9) (hf : F_X9_readPiece l G d v0 σ mc ms K) : C_X9_readPiece l G (d + 1) mc ms v0 σ K := ⟨hr, Sp.of (by decide) (Nat.le_of_ble_eq_true rfl) (b_X9_readPiece_0 hf) rfl⟩
def F_X9_kindTold_45 (l : Launch) (G : GG) (d : Nat) (s0 : Int32) (σ : Hp) (K : Int32 → Hp → Prop) : Prop :=
  K s0 σ
set_option maxRecDepth 100000 in
set_option maxHeartbeats 4000000 in
theorem b_X9_kindTold_45 {l : Launch} {G : GG} {d : Nat} {s0 : Int32} {σ : Hp} {K : Int32 → Hp → Prop} (hf : F_X9_kindTold_45 l G d s0 σ K) : Wd l G (d + 1) "CoinsLaid$Telling" yX9_kindTold cX9_kindTold 1 (some FieldType.int) 45 [] [aI s0] σ 0 0 (xM (QI K)) := by
  unfold F_X9_kindTold_45 at hf
  exact r_ireturn rfl dX9_kindTold_45 rfl ⟨_, rfl, hf⟩
def F_X9_kindTold (l : Launch) (G : GG) (d : Nat) (v0 : Nat) (σ : Hp) (K : Int32 → Hp → Prop) : Prop :=
  fN σ v0 9 0 fun x1 =>
  C_X10_isWord l G d x1 (gK G 14) σ fun r3 σ2 =>
  (r3 = false →
    fN σ2 v0 9 0 fun x4 =>
    C_X10_isWord l G d x4 (gK G 15) σ2 fun r6 σ5 =>
    (r6 = false →
      fN σ5 v0 9 0 fun x7 =>
      C_X10_isWord l G d x7 (gK G 16) σ5 fun r9 σ8 =>
      (r9 = false →
        F_X9_kindTold_45 l G d (-1) σ8 K) ∧
      (r9 = true →
        F_X9_kindTold_45 l G d 2 σ8 K)) ∧
    (r6 = true →
      K 1 σ5)) ∧
  (r3 = true →
    K 0 σ2)
set_option maxRecDepth 100000 in
set_option maxHeartbeats 4000000 in
theorem b_X9_kindTold_0 {l : Launch} {G : GG} {d : Nat} {v0 : Nat} {σ : Hp} {K : Int32 → Hp → Prop} (hf : F_X9_kindTold l G d v0 σ K) : Wd l G (d + 1) "CoinsLaid$Telling" yX9_kindTold cX9_kindTold 1 (some FieldType.int) 0 [(0, aR (some v0))] [] σ 0 0 (xM (QI K)) := by
  unfold F_X9_kindTold at hf
  refine r_aload_n (j := 0) rfl rfl dX9_kindTold_0 ?_
  obtain ⟨fs_x1, x1, ha_x1, hv_x1, hf⟩ := hf
  refine r_get (Cn := RX9) (Tt := TX9) (N := 8) (n := 0) rfl uw_X9 (Nat.le_of_ble_eq_true rfl) wd_2_102 ha_x1 hv_x1 dX9_kindTold_1 ?_
  refine r_ldcS (j := 14) rfl dX9_kindTold_4 ?_
  try unfold C_X10_isWord at hf
  obtain ⟨⟨fs_r3, ha_r3⟩, hf⟩ := hf
  refine r_invVZ (t := 10) (As := [aR (some (gK G 14))]) (dz := d) (mz := 0) (sz := 0) rfl wd_2_150 wd_2_151 wd_2_152 cf_X10_isWord (Nat.le_refl _) (Nat.zero_le _) (Nat.zero_le _) (cat_ok (Nat.le_of_ble_eq_true rfl)) rfl rfl ha_r3 dX9_kindTold_6 hf (fun r3 σ2 hk => ?_)
  replace hf := hk
  clear hk
  refine r_ifeqZ (b := r3) (tgt := 14) (by decide) dX9_kindTold_9 (fun hc => ?_) (fun hc => ?_)
  · replace hf := hf.1 hc
    refine r_aload_n (j := 0) rfl rfl dX9_kindTold_14 ?_
    obtain ⟨fs_x4, x4, ha_x4, hv_x4, hf⟩ := hf
    refine r_get (Cn := RX9) (Tt := TX9) (N := 8) (n := 0) rfl uw_X9 (Nat.le_of_ble_eq_true rfl) wd_2_102 ha_x4 hv_x4 dX9_kindTold_15 ?_
    refine r_ldcS (j := 15) rfl dX9_kindTold_18 ?_
    try unfold C_X10_isWord at hf
    obtain ⟨⟨fs_r6, ha_r6⟩, hf⟩ := hf
    refine r_invVZ (t := 10) (As := [aR (some (gK G 15))]) (dz := d) (mz := 0) (sz := 0) rfl wd_2_150 wd_2_151 wd_2_152 cf_X10_isWord (Nat.le_refl _) (Nat.zero_le _) (Nat.zero_le _) (cat_ok (Nat.le_of_ble_eq_true rfl)) rfl rfl ha_r6 dX9_kindTold_20 hf (fun r6 σ5 hk => ?_)
    replace hf := hk
    clear hk
    refine r_ifeqZ (b := r6) (tgt := 28) (by decide) dX9_kindTold_23 (fun hc => ?_) (fun hc => ?_)
    · replace hf := hf.1 hc
      refine r_aload_n (j := 0) rfl rfl dX9_kindTold_28 ?_
      obtain ⟨fs_x7, x7, ha_x7, hv_x7, hf⟩ := hf
      refine r_get (Cn := RX9) (Tt := TX9) (N := 8) (n := 0) rfl uw_X9 (Nat.le_of_ble_eq_true rfl) wd_2_102 ha_x7 hv_x7 dX9_kindTold_29 ?_
      refine r_ldcS (j := 16) rfl dX9_kindTold_32 ?_
      try unfold C_X10_isWord at hf
      obtain ⟨⟨fs_r9, ha_r9⟩, hf⟩ := hf
      refine r_invVZ (t := 10) (As := [aR (some (gK G 16))]) (dz := d) (mz := 0) (sz := 0) rfl wd_2_150 wd_2_151 wd_2_152 cf_X10_isWord (Nat.le_refl _) (Nat.zero_le _) (Nat.zero_le _) (cat_ok (Nat.le_of_ble_eq_true rfl)) rfl rfl ha_r9 dX9_kindTold_34 hf (fun r9 σ8 hk => ?_)
      replace hf := hk
      clear hk
      refine r_ifeqZ (b := r9) (tgt := 44) (by decide) dX9_kindTold_37 (fun hc => ?_) (fun hc => ?_)
      · replace hf := hf.1 hc
        refine r_iconst (v := (-1)) (by decide) dX9_kindTold_44 ?_
        exact r_sub [] rfl (b_X9_kindTold_45 hf)
      · replace hf := hf.2 hc
        refine r_iconst (v := 2) (by decide) dX9_kindTold_40 ?_
        refine r_goto (tgt := 45) (by decide) dX9_kindTold_41 ?_
        exact r_sub [] rfl (b_X9_kindTold_45 hf)
    · replace hf := hf.2 hc
      refine r_iconst (v := 1) (by decide) dX9_kindTold_26 ?_
      exact r_ireturn rfl dX9_kindTold_27 rfl ⟨_, rfl, hf⟩
  · replace hf := hf.2 hc
    refine r_iconst (v := 0) (by decide) dX9_kindTold_12 ?_
    exact r_ireturn rfl dX9_kindTold_13 rfl ⟨_, rfl, hf⟩
theorem m_X9_kindTold {l : Launch} {G : GG} {d : Nat} {v0 : Nat} {σ : Hp} {K : Int32 → Hp → Prop} (hr : rv σ v0 9) (hf : F_X9_kindTold l G d v0 σ K) : C_X9_kindTold l G (d + 1) v0 σ K := ⟨hr, Sp.of (by decide) (Nat.le_of_ble_eq_true rfl) (b_X9_kindTold_0 hf) rfl⟩
def F_X9_ownerTold_25 (l : Launch) (G : GG) (d : Nat) (s0 : Int32) (σ : Hp) (K : Int32 → Hp → Prop) : Prop :=
  K s0 σ
set_option maxRecDepth 100000 in
set_option maxHeartbeats 4000000 in
theorem b_X9_ownerTold_25 {l : Launch} {G : GG} {d : Nat} {s0 : Int32} {σ : Hp} {K : Int32 → Hp → Prop} (hf : F_X9_ownerTold_25 l G d s0 σ K) : Wd l G (d + 1) "CoinsLaid$Telling" yX9_ownerTold cX9_ownerTold 1 (some FieldType.int) 25 [] [aI s0] σ 0 0 (xM (QI K)) := by
  unfold F_X9_ownerTold_25 at hf
  exact r_ireturn rfl dX9_ownerTold_25 rfl ⟨_, rfl, hf⟩
def F_X9_ownerTold (l : Launch) (G : GG) (d : Nat) (v0 : Nat) (σ : Hp) (K : Int32 → Hp → Prop) : Prop :=
  C_X9_passPerhaps l G d v0 (gK G 18) σ fun r2 σ1 =>
  (r2 = false →
    C_X9_passPerhaps l G d v0 (gK G 19) σ1 fun r4 σ3 =>
    (r4 = false →
      F_X9_ownerTold_25 l G d (-1) σ3 K) ∧
    (r4 = true →
      F_X9_ownerTold_25 l G d 1 σ3 K)) ∧
  (r2 = true →
    K 0 σ1)
set_option maxRecDepth 100000 in
set_option maxHeartbeats 4000000 in
theorem b_X9_ownerTold_0 {l : Launch} {G : GG} {d : Nat} {v0 : Nat} {σ : Hp} {K : Int32 → Hp → Prop} (hf : F_X9_ownerTold l G d v0 σ K) : Wd l G (d + 1) "CoinsLaid$Telling" yX9_ownerTold cX9_ownerTold 1 (some FieldType.int) 0 [(0, aR (some v0))] [] σ 0 0 (xM (QI K)) := by
  unfold F_X9_ownerTold at hf
  refine r_aload_n (j := 0) rfl rfl dX9_ownerTold_0 ?_
  refine r_ldcS (j := 18) rfl dX9_ownerTold_1 ?_
  try unfold C_X9_passPerhaps at hf
  obtain ⟨⟨fs_r2, ha_r2⟩, hf⟩ := hf
  refine r_invVZ (t := 9) (As := [aR (some (gK G 18))]) (dz := d) (mz := 0) (sz := 0) rfl wd_2_213 wd_2_215 wd_p_6 cf_X9_passPerhaps (Nat.le_refl _) (Nat.zero_le _) (Nat.zero_le _) (cat_ok (Nat.le_of_ble_eq_true rfl)) rfl rfl ha_r2 dX9_ownerTold_3 hf (fun r2 σ1 hk => ?_)
  replace hf := hk
  clear hk
  refine r_ifeqZ (b := r2) (tgt := 11) (by decide) dX9_ownerTold_6 (fun hc => ?_) (fun hc => ?_)
  · replace hf := hf.1 hc
    refine r_aload_n (j := 0) rfl rfl dX9_ownerTold_11 ?_
    refine r_ldcS (j := 19) rfl dX9_ownerTold_12 ?_
    try unfold C_X9_passPerhaps at hf
    obtain ⟨⟨fs_r4, ha_r4⟩, hf⟩ := hf
    refine r_invVZ (t := 9) (As := [aR (some (gK G 19))]) (dz := d) (mz := 0) (sz := 0) rfl wd_2_213 wd_2_215 wd_p_6 cf_X9_passPerhaps (Nat.le_refl _) (Nat.zero_le _) (Nat.zero_le _) (cat_ok (Nat.le_of_ble_eq_true rfl)) rfl rfl ha_r4 dX9_ownerTold_14 hf (fun r4 σ3 hk => ?_)
    replace hf := hk
    clear hk
    refine r_ifeqZ (b := r4) (tgt := 24) (by decide) dX9_ownerTold_17 (fun hc => ?_) (fun hc => ?_)
    · replace hf := hf.1 hc
      refine r_iconst (v := (-1)) (by decide) dX9_ownerTold_24 ?_
      exact r_sub [] rfl (b_X9_ownerTold_25 hf)
    · replace hf := hf.2 hc
      refine r_iconst (v := 1) (by decide) dX9_ownerTold_20 ?_
      refine r_goto (tgt := 25) (by decide) dX9_ownerTold_21 ?_
      exact r_sub [] rfl (b_X9_ownerTold_25 hf)
  · replace hf := hf.2 hc
    refine r_iconst (v := 0) (by decide) dX9_ownerTold_9 ?_
    exact r_ireturn rfl dX9_ownerTold_10 rfl ⟨_, rfl, hf⟩
theorem m_X9_ownerTold {l : Launch} {G : GG} {d : Nat} {v0 : Nat} {σ : Hp} {K : Int32 → Hp → Prop} (hr : rv σ v0 9) (hf : F_X9_ownerTold l G d v0 σ K) : C_X9_ownerTold l G (d + 1) v0 σ K := ⟨hr, Sp.of (by decide) (Nat.le_of_ble_eq_true rfl) (b_X9_ownerTold_0 hf) rfl⟩
def F_X9_readLay_106 (l : Launch) (G : GG) (d : Nat) (v0 : Nat) (σ : Hp) (bc bs : Nat) (K : Bool → Hp → Prop) : Prop :=
  C_X9_fail l G d v0 7 σ fun r2 σ1 =>
  K r2 σ1
set_option maxRecDepth 100000 in
set_option maxHeartbeats 4000000 in
theorem b_X9_readLay_106 {l : Launch} {G : GG} {d : Nat} {v0 : Nat} {σ : Hp} {bc bs : Nat} {K : Bool → Hp → Prop} (hf : F_X9_readLay_106 l G d v0 σ bc bs K) : Wd l G (d + 1) "CoinsLaid$Telling" yX9_readLay cX9_readLay 2 (some FieldType.boolean) 106 [(0, aR (some v0))] [] σ bc bs (xM (QZ K)) := by
  unfold F_X9_readLay_106 at hf
  refine r_aload_n (j := 0) rfl rfl dX9_readLay_106 ?_
  refine r_bipush (v := 7) (by decide) dX9_readLay_107 ?_
  try unfold C_X9_fail at hf
  obtain ⟨⟨fs_r2, ha_r2⟩, hf⟩ := hf
  refine r_invVZ (t := 9) (As := [aI 7]) (dz := d) (mz := 0) (sz := 0) rfl wd_2_206 wd_2_208 wd_p_5 cf_X9_fail (Nat.le_refl _) (Nat.zero_le _) (Nat.zero_le _) (cat_ok (Nat.le_of_ble_eq_true rfl)) rfl rfl ha_r2 dX9_readLay_109 hf (fun r2 σ1 hk => ?_)
  replace hf := hk
  clear hk
  exact r_zreturn (b := r2) rfl dX9_readLay_112 rfl ⟨_, rfl, hf⟩
def F_X9_readLay (l : Launch) (G : GG) (d : Nat) (v0 : Nat) (σ : Hp) (bc bs : Nat) (K : Bool → Hp → Prop) : Prop :=
  fN σ v0 9 1 fun x3 =>
  fI σ x3 1 1 fun x4 =>
  ((x4 : Int32) < (8 : Int32) →
    fN σ v0 9 2 fun x5 =>
    fZ σ x5 8 0 fun x6 =>
    (x6 = true →
      fN σ v0 9 0 fun x7 =>
      C_X10_advance l G d x7 σ fun σ8 =>
      fN σ8 v0 9 0 fun x10 =>
      fI σ8 x10 10 3 fun x11 =>
      ((x11 : Int32) = (2 : Int32) →
        fN σ8 v0 9 2 fun x12 =>
        ∃ mz15 sz16, mz15 ≤ bc ∧ sz16 ≤ bs ∧ C_X8_makeLays l G d mz15 sz16 x12 σ8 fun σ13 =>
        fN σ13 v0 9 2 fun x17 =>
        fN σ13 v0 9 0 fun x18 =>
        C_X10_wholeValue l G d x18 σ13 fun r20 σ19 =>
        C_X8_layNumbered l G d x17 r20 σ19 fun r22 σ21 =>
        (r22 = none →
          F_X9_readLay_106 l G d v0 σ21 (bc - mz15) (bs - sz16) K) ∧
        (∀ b23, r22 = some b23 →
          fN σ21 v0 9 1 fun x24 =>
          fI σ21 x24 1 2 fun x25 =>
          fN σ21 v0 9 1 fun x26 =>
          C_X1_next l G d x26 σ21 fun r28 σ27 =>
          C_X2_mayBe l G d b23 x25 r28 σ27 fun r30 σ29 =>
          (r30 = true →
            fN σ29 v0 9 1 fun x31 =>
            C_X1_add l G d x31 (some b23) σ29 fun σ32 =>
            fN σ32 v0 9 0 fun x34 =>
            C_X10_advance l G d x34 σ32 fun σ35 =>
            K true σ35) ∧
          (r30 = false →
            F_X9_readLay_106 l G d v0 σ29 (bc - mz15) (bs - sz16) K))) ∧
      (¬ (x11 : Int32) = (2 : Int32) →
        C_X9_fail l G d v0 1 σ8 fun r38 σ37 =>
        K r38 σ37)) ∧
    (x6 = false →
      C_X9_fail l G d v0 6 σ fun r40 σ39 =>
      K r40 σ39)) ∧
  (¬ (x4 : Int32) < (8 : Int32) →
    C_X9_fail l G d v0 5 σ fun r42 σ41 =>
    K r42 σ41)
set_option maxRecDepth 100000 in
set_option maxHeartbeats 4000000 in
theorem b_X9_readLay_0 {l : Launch} {G : GG} {d : Nat} {v0 : Nat} {σ : Hp} {bc bs : Nat} {K : Bool → Hp → Prop} (hf : F_X9_readLay l G d v0 σ bc bs K) : Wd l G (d + 1) "CoinsLaid$Telling" yX9_readLay cX9_readLay 2 (some FieldType.boolean) 0 [(0, aR (some v0))] [] σ bc bs (xM (QZ K)) := by
  unfold F_X9_readLay at hf
  refine r_aload_n (j := 0) rfl rfl dX9_readLay_0 ?_
  obtain ⟨fs_x3, x3, ha_x3, hv_x3, hf⟩ := hf
  refine r_get (Cn := RX9) (Tt := TX9) (N := 8) (n := 1) rfl uw_X9 (Nat.le_of_ble_eq_true rfl) wd_2_103 ha_x3 hv_x3 dX9_readLay_1 ?_
  obtain ⟨fs_x4, x4, ha_x4, hv_x4, hf⟩ := hf
  refine r_get (Cn := RX1) (Tt := TX1) (N := 4) (n := 1) rfl uw_X1 (Nat.le_of_ble_eq_true rfl) wd_1_93 ha_x4 hv_x4 dX9_readLay_4 ?_
  refine r_bipush (v := 8) (by decide) dX9_readLay_7 ?_
  refine r_icmplt (x := x4) (y := 8) (tgt := 18) (by decide) dX9_readLay_9 (fun hc => ?_) (fun hc => ?_)
  · replace hf := hf.1 hc
    refine r_aload_n (j := 0) rfl rfl dX9_readLay_18 ?_
    obtain ⟨fs_x5, x5, ha_x5, hv_x5, hf⟩ := hf
    refine r_get (Cn := RX9) (Tt := TX9) (N := 8) (n := 2) rfl uw_X9 (Nat.le_of_ble_eq_true rfl) wd_2_104 ha_x5 hv_x5 dX9_readLay_19 ?_
    obtain ⟨fs_x6, x6, ha_x6, hv_x6, hf⟩ := hf
    refine r_get (Cn := RX8) (Tt := TX8) (N := 9) (n := 0) rfl uw_X8 (Nat.le_of_ble_eq_true rfl) wd_2_54 ha_x6 hv_x6 dX9_readLay_22 ?_
    refine r_ifneZ (b := x6) (tgt := 35) (by decide) dX9_readLay_25 (fun hc => ?_) (fun hc => ?_)
    · replace hf := hf.1 hc
      refine r_aload_n (j := 0) rfl rfl dX9_readLay_35 ?_
      obtain ⟨fs_x7, x7, ha_x7, hv_x7, hf⟩ := hf
      refine r_get (Cn := RX9) (Tt := TX9) (N := 8) (n := 0) rfl uw_X9 (Nat.le_of_ble_eq_true rfl) wd_2_102 ha_x7 hv_x7 dX9_readLay_36 ?_
      try unfold C_X10_advance at hf
      obtain ⟨⟨fs_r9, ha_r9⟩, hf⟩ := hf
      refine r_invVU (t := 10) (As := []) (dz := d) (mz := 0) (sz := 0) rfl wd_2_134 wd_2_135 wd_2_136 cf_X10_advance (Nat.le_refl _) (Nat.zero_le _) (Nat.zero_le _) (cat_ok (Nat.le_of_ble_eq_true rfl)) rfl rfl ha_r9 dX9_readLay_39 hf (fun σ8 hk => ?_)
      replace hf := hk
      clear hk
      refine r_aload_n (j := 0) rfl rfl dX9_readLay_42 ?_
      obtain ⟨fs_x10, x10, ha_x10, hv_x10, hf⟩ := hf
      refine r_get (Cn := RX9) (Tt := TX9) (N := 8) (n := 0) rfl uw_X9 (Nat.le_of_ble_eq_true rfl) wd_2_102 ha_x10 hv_x10 dX9_readLay_43 ?_
      obtain ⟨fs_x11, x11, ha_x11, hv_x11, hf⟩ := hf
      refine r_get (Cn := RX10) (Tt := TX10) (N := 5) (n := 3) rfl uw_X10 (Nat.le_of_ble_eq_true rfl) wd_2_4 ha_x11 hv_x11 dX9_readLay_46 ?_
      refine r_iconst (v := 2) (by decide) dX9_readLay_49 ?_
      refine r_icmpeq (x := x11) (y := 2) (tgt := 59) (by decide) dX9_readLay_50 (fun hc => ?_) (fun hc => ?_)
      · replace hf := hf.1 hc
        refine r_aload_n (j := 0) rfl rfl dX9_readLay_59 ?_
        obtain ⟨fs_x12, x12, ha_x12, hv_x12, hf⟩ := hf
        refine r_get (Cn := RX9) (Tt := TX9) (N := 8) (n := 2) rfl uw_X9 (Nat.le_of_ble_eq_true rfl) wd_2_104 ha_x12 hv_x12 dX9_readLay_60 ?_
        obtain ⟨mz15, sz16, hbc, hbs, hf⟩ := hf
        try unfold C_X8_makeLays at hf
        obtain ⟨⟨fs_r14, ha_r14⟩, hf⟩ := hf
        refine r_invVU (t := 8) (As := []) (dz := d) (mz := mz15) (sz := sz16) rfl wd_3_225 wd_3_226 wd_3_227 cf_X8_makeLays (Nat.le_refl _) hbc hbs (cat_ok (Nat.le_of_ble_eq_true rfl)) rfl rfl ha_r14 dX9_readLay_63 hf (fun σ13 hk => ?_)
        replace hf := hk
        clear hk
        refine r_aload_n (j := 0) rfl rfl dX9_readLay_66 ?_
        obtain ⟨fs_x17, x17, ha_x17, hv_x17, hf⟩ := hf
        refine r_get (Cn := RX9) (Tt := TX9) (N := 8) (n := 2) rfl uw_X9 (Nat.le_of_ble_eq_true rfl) wd_2_104 ha_x17 hv_x17 dX9_readLay_67 ?_
        refine r_aload_n (j := 0) rfl rfl dX9_readLay_70 ?_
        obtain ⟨fs_x18, x18, ha_x18, hv_x18, hf⟩ := hf
        refine r_get (Cn := RX9) (Tt := TX9) (N := 8) (n := 0) rfl uw_X9 (Nat.le_of_ble_eq_true rfl) wd_2_102 ha_x18 hv_x18 dX9_readLay_71 ?_
        try unfold C_X10_wholeValue at hf
        obtain ⟨⟨fs_r20, ha_r20⟩, hf⟩ := hf
        refine r_invVI (t := 10) (As := []) (dz := d) (mz := 0) (sz := 0) rfl wd_3_41 wd_3_42 wd_3_43 cf_X10_wholeValue (Nat.le_refl _) (Nat.zero_le _) (Nat.zero_le _) (cat_ok (Nat.le_of_ble_eq_true rfl)) rfl rfl ha_r20 dX9_readLay_74 hf (fun r20 σ19 hk => ?_)
        replace hf := hk
        clear hk
        try unfold C_X8_layNumbered at hf
        obtain ⟨⟨fs_r22, ha_r22⟩, hf⟩ := hf
        refine r_invVR (t := 8) (As := [aI r20]) (dz := d) (mz := 0) (sz := 0) rfl wd_4_70 wd_4_71 wd_4_72 cf_X8_layNumbered (Nat.le_refl _) (Nat.zero_le _) (Nat.zero_le _) (cat_ok (Nat.le_of_ble_eq_true rfl)) rfl rfl ha_r22 dX9_readLay_77 hf (fun r22 σ21 hk => ?_)
        replace hf := hk
        clear hk
        refine r_astore_n (L' := [(1, aR r22), (0, aR (some v0))]) rfl rfl (Nat.le_of_ble_eq_true rfl) dX9_readLay_80 ?_
        refine r_aload_n (j := 0) rfl rfl dX9_readLay_81 ?_
        refine r_ifnull (o := r22) (tgt := 106) (by decide) dX9_readLay_82 (fun hc => ?_) (fun b23 hc => ?_)
        · replace hf := hf.1 hc
          subst hc
          exact r_sub [1] rfl (b_X9_readLay_106 hf)
        · replace hf := hf.2 b23 hc
          subst hc
          refine r_aload_n (j := 0) rfl rfl dX9_readLay_85 ?_
          refine r_aload_n (j := 1) rfl rfl dX9_readLay_86 ?_
          obtain ⟨fs_x24, x24, ha_x24, hv_x24, hf⟩ := hf
          refine r_get (Cn := RX9) (Tt := TX9) (N := 8) (n := 1) rfl uw_X9 (Nat.le_of_ble_eq_true rfl) wd_2_103 ha_x24 hv_x24 dX9_readLay_87 ?_
          obtain ⟨fs_x25, x25, ha_x25, hv_x25, hf⟩ := hf
          refine r_get (Cn := RX1) (Tt := TX1) (N := 4) (n := 2) rfl uw_X1 (Nat.le_of_ble_eq_true rfl) wd_1_98 ha_x25 hv_x25 dX9_readLay_90 ?_
          refine r_aload_n (j := 1) rfl rfl dX9_readLay_93 ?_
          obtain ⟨fs_x26, x26, ha_x26, hv_x26, hf⟩ := hf
          refine r_get (Cn := RX9) (Tt := TX9) (N := 8) (n := 1) rfl uw_X9 (Nat.le_of_ble_eq_true rfl) wd_2_103 ha_x26 hv_x26 dX9_readLay_94 ?_
          try unfold C_X1_next at hf
          obtain ⟨⟨fs_r28, ha_r28⟩, hf⟩ := hf
          refine r_invVI (t := 1) (As := []) (dz := d) (mz := 0) (sz := 0) rfl wd_4_74 wd_4_75 wd_4_76 cf_X1_next (Nat.le_refl _) (Nat.zero_le _) (Nat.zero_le _) (cat_ok (Nat.le_of_ble_eq_true rfl)) rfl rfl ha_r28 dX9_readLay_97 hf (fun r28 σ27 hk => ?_)
          replace hf := hk
          clear hk
          try unfold C_X2_mayBe at hf
          obtain ⟨⟨fs_r30, ha_r30⟩, hf⟩ := hf
          refine r_invVZ (t := 2) (As := [aI x25, aI r28]) (dz := d) (mz := 0) (sz := 0) rfl wd_4_78 wd_4_79 wd_4_80 cf_X2_mayBe (Nat.le_refl _) (Nat.zero_le _) (Nat.zero_le _) (cat_ok (Nat.le_of_ble_eq_true rfl)) rfl rfl ha_r30 dX9_readLay_100 hf (fun r30 σ29 hk => ?_)
          replace hf := hk
          clear hk
          refine r_ifneZ (b := r30) (tgt := 113) (by decide) dX9_readLay_103 (fun hc => ?_) (fun hc => ?_)
          · replace hf := hf.1 hc
            refine r_aload_n (j := 1) rfl rfl dX9_readLay_113 ?_
            obtain ⟨fs_x31, x31, ha_x31, hv_x31, hf⟩ := hf
            refine r_get (Cn := RX9) (Tt := TX9) (N := 8) (n := 1) rfl uw_X9 (Nat.le_of_ble_eq_true rfl) wd_2_103 ha_x31 hv_x31 dX9_readLay_114 ?_
            refine r_aload_n (j := 0) rfl rfl dX9_readLay_117 ?_
            try unfold C_X1_add at hf
            obtain ⟨⟨fs_r33, ha_r33⟩, hf⟩ := hf
            refine r_invVU (t := 1) (As := [aR (some b23)]) (dz := d) (mz := 0) (sz := 0) rfl wd_4_86 wd_4_87 wd_4_88 cf_X1_add (Nat.le_refl _) (Nat.zero_le _) (Nat.zero_le _) (cat_ok (Nat.le_of_ble_eq_true rfl)) rfl rfl ha_r33 dX9_readLay_118 hf (fun σ32 hk => ?_)
            replace hf := hk
            clear hk
            refine r_aload_n (j := 1) rfl rfl dX9_readLay_121 ?_
            obtain ⟨fs_x34, x34, ha_x34, hv_x34, hf⟩ := hf
            refine r_get (Cn := RX9) (Tt := TX9) (N := 8) (n := 0) rfl uw_X9 (Nat.le_of_ble_eq_true rfl) wd_2_102 ha_x34 hv_x34 dX9_readLay_122 ?_
            try unfold C_X10_advance at hf
            obtain ⟨⟨fs_r36, ha_r36⟩, hf⟩ := hf
            refine r_invVU (t := 10) (As := []) (dz := d) (mz := 0) (sz := 0) rfl wd_2_134 wd_2_135 wd_2_136 cf_X10_advance (Nat.le_refl _) (Nat.zero_le _) (Nat.zero_le _) (cat_ok (Nat.le_of_ble_eq_true rfl)) rfl rfl ha_r36 dX9_readLay_125 hf (fun σ35 hk => ?_)
            replace hf := hk
            clear hk
            refine r_iconst (v := 1) (by decide) dX9_readLay_128 ?_
            exact r_zreturn (b := true) rfl dX9_readLay_129 rfl ⟨_, rfl, hf⟩
          · replace hf := hf.2 hc
            exact r_sub [1] rfl (b_X9_readLay_106 hf)
      · replace hf := hf.2 hc
        refine r_aload_n (j := 0) rfl rfl dX9_readLay_53 ?_
        refine r_iconst (v := 1) (by decide) dX9_readLay_54 ?_
        try unfold C_X9_fail at hf
        obtain ⟨⟨fs_r38, ha_r38⟩, hf⟩ := hf
        refine r_invVZ (t := 9) (As := [aI 1]) (dz := d) (mz := 0) (sz := 0) rfl wd_2_206 wd_2_208 wd_p_5 cf_X9_fail (Nat.le_refl _) (Nat.zero_le _) (Nat.zero_le _) (cat_ok (Nat.le_of_ble_eq_true rfl)) rfl rfl ha_r38 dX9_readLay_55 hf (fun r38 σ37 hk => ?_)
        replace hf := hk
        clear hk
        exact r_zreturn (b := r38) rfl dX9_readLay_58 rfl ⟨_, rfl, hf⟩
    · replace hf := hf.2 hc
      refine r_aload_n (j := 0) rfl rfl dX9_readLay_28 ?_
      refine r_bipush (v := 6) (by decide) dX9_readLay_29 ?_
      try unfold C_X9_fail at hf
      obtain ⟨⟨fs_r40, ha_r40⟩, hf⟩ := hf
      refine r_invVZ (t := 9) (As := [aI 6]) (dz := d) (mz := 0) (sz := 0) rfl wd_2_206 wd_2_208 wd_p_5 cf_X9_fail (Nat.le_refl _) (Nat.zero_le _) (Nat.zero_le _) (cat_ok (Nat.le_of_ble_eq_true rfl)) rfl rfl ha_r40 dX9_readLay_31 hf (fun r40 σ39 hk => ?_)
      replace hf := hk
      clear hk
      exact r_zreturn (b := r40) rfl dX9_readLay_34 rfl ⟨_, rfl, hf⟩
  · replace hf := hf.2 hc
    refine r_aload_n (j := 0) rfl rfl dX9_readLay_12 ?_
    refine r_iconst (v := 5) (by decide) dX9_readLay_13 ?_
    try unfold C_X9_fail at hf
    obtain ⟨⟨fs_r42, ha_r42⟩, hf⟩ := hf
    refine r_invVZ (t := 9) (As := [aI 5]) (dz := d) (mz := 0) (sz := 0) rfl wd_2_206 wd_2_208 wd_p_5 cf_X9_fail (Nat.le_refl _) (Nat.zero_le _) (Nat.zero_le _) (cat_ok (Nat.le_of_ble_eq_true rfl)) rfl rfl ha_r42 dX9_readLay_14 hf (fun r42 σ41 hk => ?_)
    replace hf := hk
    clear hk
    exact r_zreturn (b := r42) rfl dX9_readLay_17 rfl ⟨_, rfl, hf⟩
theorem m_X9_readLay {l : Launch} {G : GG} {d : Nat} {mc ms : Nat} {v0 : Nat} {σ : Hp} {K : Bool → Hp → Prop} (hr : rv σ v0 9) (hf : F_X9_readLay l G d v0 σ mc ms K) : C_X9_readLay l G (d + 1) mc ms v0 σ K := ⟨hr, Sp.of (by decide) (Nat.le_of_ble_eq_true rfl) (b_X9_readLay_0 hf) rfl⟩
def F_X9_readPair_47 (l : Launch) (G : GG) (d : Nat) (σ : Hp) (K : Bool → Hp → Prop) : Prop :=
  K false σ
set_option maxRecDepth 100000 in
set_option maxHeartbeats 4000000 in
theorem b_X9_readPair_47 {l : Launch} {G : GG} {d : Nat} {σ : Hp} {K : Bool → Hp → Prop} (hf : F_X9_readPair_47 l G d  σ K) : Wd l G (d + 1) "CoinsLaid$Telling" yX9_readPair cX9_readPair 4 (some FieldType.boolean) 47 [] [] σ 0 0 (xM (QZ K)) := by
  unfold F_X9_readPair_47 at hf
  refine r_iconst (v := 0) (by decide) dX9_readPair_47 ?_
  exact r_zreturn (b := false) rfl dX9_readPair_48 rfl ⟨_, rfl, hf⟩
def F_X9_readPair (l : Launch) (G : GG) (d : Nat) (v0 : Nat) (v1 : Int32) (v2 : Int32) (v3 : Int32) (σ : Hp) (K : Bool → Hp → Prop) : Prop :=
  C_X9_isWholeWithin l G d v0 v1 v2 σ fun r2 σ1 =>
  (r2 = true →
    fN σ1 v0 9 0 fun x3 =>
    C_X10_wholeValue l G d x3 σ1 fun r5 σ4 =>
    pF σ4 v0 9 6 (aI r5) fun σ6 =>
    fN σ6 v0 9 0 fun x8 =>
    C_X10_advance l G d x8 σ6 fun σ9 =>
    C_X9_passSign l G d v0 44 σ9 fun r12 σ11 =>
    (r12 = false →
      F_X9_readPair_47 l G d σ11 K) ∧
    (r12 = true →
      C_X9_isWholeWithin l G d v0 v1 v3 σ11 fun r14 σ13 =>
      (r14 = true →
        fN σ13 v0 9 0 fun x15 =>
        C_X10_wholeValue l G d x15 σ13 fun r17 σ16 =>
        pF σ16 v0 9 7 (aI r17) fun σ18 =>
        K true σ18) ∧
      (r14 = false →
        F_X9_readPair_47 l G d σ13 K))) ∧
  (r2 = false →
    K false σ1)
set_option maxRecDepth 100000 in
set_option maxHeartbeats 4000000 in
theorem b_X9_readPair_0 {l : Launch} {G : GG} {d : Nat} {v0 : Nat} {v1 : Int32} {v2 : Int32} {v3 : Int32} {σ : Hp} {K : Bool → Hp → Prop} (hf : F_X9_readPair l G d v0 v1 v2 v3 σ K) : Wd l G (d + 1) "CoinsLaid$Telling" yX9_readPair cX9_readPair 4 (some FieldType.boolean) 0 [(0, aR (some v0)), (1, aI v1), (2, aI v2), (3, aI v3)] [] σ 0 0 (xM (QZ K)) := by
  unfold F_X9_readPair at hf
  refine r_aload_n (j := 0) rfl rfl dX9_readPair_0 ?_
  refine r_iload_n (j := 1) rfl rfl dX9_readPair_1 ?_
  refine r_iload_n (j := 2) rfl rfl dX9_readPair_2 ?_
  try unfold C_X9_isWholeWithin at hf
  obtain ⟨⟨fs_r2, ha_r2⟩, hf⟩ := hf
  refine r_invVZ (t := 9) (As := [aI v1, aI v2]) (dz := d) (mz := 0) (sz := 0) rfl wd_3_37 wd_3_39 wd_p_11 cf_X9_isWholeWithin (Nat.le_refl _) (Nat.zero_le _) (Nat.zero_le _) (cat_ok (Nat.le_of_ble_eq_true rfl)) rfl rfl ha_r2 dX9_readPair_3 hf (fun r2 σ1 hk => ?_)
  replace hf := hk
  clear hk
  refine r_ifneZ (b := r2) (tgt := 11) (by decide) dX9_readPair_6 (fun hc => ?_) (fun hc => ?_)
  · replace hf := hf.1 hc
    refine r_aload_n (j := 0) rfl rfl dX9_readPair_11 ?_
    refine r_aload_n (j := 0) rfl rfl dX9_readPair_12 ?_
    obtain ⟨fs_x3, x3, ha_x3, hv_x3, hf⟩ := hf
    refine r_get (Cn := RX9) (Tt := TX9) (N := 8) (n := 0) rfl uw_X9 (Nat.le_of_ble_eq_true rfl) wd_2_102 ha_x3 hv_x3 dX9_readPair_13 ?_
    try unfold C_X10_wholeValue at hf
    obtain ⟨⟨fs_r5, ha_r5⟩, hf⟩ := hf
    refine r_invVI (t := 10) (As := []) (dz := d) (mz := 0) (sz := 0) rfl wd_3_41 wd_3_42 wd_3_43 cf_X10_wholeValue (Nat.le_refl _) (Nat.zero_le _) (Nat.zero_le _) (cat_ok (Nat.le_of_ble_eq_true rfl)) rfl rfl ha_r5 dX9_readPair_16 hf (fun r5 σ4 hk => ?_)
    replace hf := hk
    clear hk
    obtain ⟨fs_x7, ha_x7, hf⟩ := hf
    generalize hσ6 : hset σ4 v0 (.inl (9, fs_x7.set 6 (aI r5))) = σ6 at hf
    refine r_put (Cn := RX9) (Tt := TX9) (N := 8) (n := 6) (v := aI r5) rfl uw_X9 (Nat.le_of_ble_eq_true rfl) wd_2_111 ha_x7 (ty0 := tyX9) tyX9_ok nmX9 rfl (fo_I r5) dX9_readPair_19 ?_
    rw [hσ6]
    refine r_aload_n (j := 0) rfl rfl dX9_readPair_22 ?_
    obtain ⟨fs_x8, x8, ha_x8, hv_x8, hf⟩ := hf
    refine r_get (Cn := RX9) (Tt := TX9) (N := 8) (n := 0) rfl uw_X9 (Nat.le_of_ble_eq_true rfl) wd_2_102 ha_x8 hv_x8 dX9_readPair_23 ?_
    try unfold C_X10_advance at hf
    obtain ⟨⟨fs_r10, ha_r10⟩, hf⟩ := hf
    refine r_invVU (t := 10) (As := []) (dz := d) (mz := 0) (sz := 0) rfl wd_2_134 wd_2_135 wd_2_136 cf_X10_advance (Nat.le_refl _) (Nat.zero_le _) (Nat.zero_le _) (cat_ok (Nat.le_of_ble_eq_true rfl)) rfl rfl ha_r10 dX9_readPair_26 hf (fun σ9 hk => ?_)
    replace hf := hk
    clear hk
    refine r_aload_n (j := 0) rfl rfl dX9_readPair_29 ?_
    refine r_bipush (v := 44) (by decide) dX9_readPair_30 ?_
    try unfold C_X9_passSign at hf
    obtain ⟨⟨fs_r12, ha_r12⟩, hf⟩ := hf
    refine r_invVZ (t := 9) (As := [aI 44]) (dz := d) (mz := 0) (sz := 0) rfl wd_3_153 wd_3_155 wd_p_17 cf_X9_passSign (Nat.le_refl _) (Nat.zero_le _) (Nat.zero_le _) (cat_ok (Nat.le_of_ble_eq_true rfl)) rfl rfl ha_r12 dX9_readPair_32 hf (fun r12 σ11 hk => ?_)
    replace hf := hk
    clear hk
    refine r_ifeqZ (b := r12) (tgt := 47) (by decide) dX9_readPair_35 (fun hc => ?_) (fun hc => ?_)
    · replace hf := hf.1 hc
      exact r_sub [] rfl (b_X9_readPair_47 hf)
    · replace hf := hf.2 hc
      refine r_aload_n (j := 0) rfl rfl dX9_readPair_38 ?_
      refine r_iload_n (j := 1) rfl rfl dX9_readPair_39 ?_
      refine r_iload_n (j := 3) rfl rfl dX9_readPair_40 ?_
      try unfold C_X9_isWholeWithin at hf
      obtain ⟨⟨fs_r14, ha_r14⟩, hf⟩ := hf
      refine r_invVZ (t := 9) (As := [aI v1, aI v3]) (dz := d) (mz := 0) (sz := 0) rfl wd_3_37 wd_3_39 wd_p_11 cf_X9_isWholeWithin (Nat.le_refl _) (Nat.zero_le _) (Nat.zero_le _) (cat_ok (Nat.le_of_ble_eq_true rfl)) rfl rfl ha_r14 dX9_readPair_41 hf (fun r14 σ13 hk => ?_)
      replace hf := hk
      clear hk
      refine r_ifneZ (b := r14) (tgt := 49) (by decide) dX9_readPair_44 (fun hc => ?_) (fun hc => ?_)
      · replace hf := hf.1 hc
        refine r_aload_n (j := 0) rfl rfl dX9_readPair_49 ?_
        refine r_aload_n (j := 0) rfl rfl dX9_readPair_50 ?_
        obtain ⟨fs_x15, x15, ha_x15, hv_x15, hf⟩ := hf
        refine r_get (Cn := RX9) (Tt := TX9) (N := 8) (n := 0) rfl uw_X9 (Nat.le_of_ble_eq_true rfl) wd_2_102 ha_x15 hv_x15 dX9_readPair_51 ?_
        try unfold C_X10_wholeValue at hf
        obtain ⟨⟨fs_r17, ha_r17⟩, hf⟩ := hf
        refine r_invVI (t := 10) (As := []) (dz := d) (mz := 0) (sz := 0) rfl wd_3_41 wd_3_42 wd_3_43 cf_X10_wholeValue (Nat.le_refl _) (Nat.zero_le _) (Nat.zero_le _) (cat_ok (Nat.le_of_ble_eq_true rfl)) rfl rfl ha_r17 dX9_readPair_54 hf (fun r17 σ16 hk => ?_)
        replace hf := hk
        clear hk
        obtain ⟨fs_x19, ha_x19, hf⟩ := hf
        generalize hσ18 : hset σ16 v0 (.inl (9, fs_x19.set 7 (aI r17))) = σ18 at hf
        refine r_put (Cn := RX9) (Tt := TX9) (N := 8) (n := 7) (v := aI r17) rfl uw_X9 (Nat.le_of_ble_eq_true rfl) wd_2_112 ha_x19 (ty0 := tyX9) tyX9_ok nmX9 rfl (fo_I r17) dX9_readPair_57 ?_
        rw [hσ18]
        refine r_iconst (v := 1) (by decide) dX9_readPair_60 ?_
        exact r_zreturn (b := true) rfl dX9_readPair_61 rfl ⟨_, rfl, hf⟩
      · replace hf := hf.2 hc
        exact r_sub [] rfl (b_X9_readPair_47 hf)
  · replace hf := hf.2 hc
    refine r_iconst (v := 0) (by decide) dX9_readPair_9 ?_
    exact r_zreturn (b := false) rfl dX9_readPair_10 rfl ⟨_, rfl, hf⟩
theorem m_X9_readPair {l : Launch} {G : GG} {d : Nat} {v0 : Nat} {v1 : Int32} {v2 : Int32} {v3 : Int32} {σ : Hp} {K : Bool → Hp → Prop} (hr : rv σ v0 9) (hf : F_X9_readPair l G d v0 v1 v2 v3 σ K) : C_X9_readPair l G (d + 1) v0 v1 v2 v3 σ K := ⟨hr, Sp.of (by decide) (Nat.le_of_ble_eq_true rfl) (b_X9_readPair_0 hf) rfl⟩
def F_X9_passFirstWord (l : Launch) (G : GG) (d : Nat) (v0 : Nat) (v1 : Bool) (σ : Hp) (K : Bool → Hp → Prop) : Prop :=
  (v1 = true →
    fN σ v0 9 2 fun x1 =>
    fZ σ x1 8 7 fun x2 =>
    (x2 = false →
      fN σ v0 9 0 fun x3 =>
      C_X10_advance l G d x3 σ fun σ4 =>
      K true σ4) ∧
    (x2 = true →
      C_X9_fail l G d v0 6 σ fun r7 σ6 =>
      K r7 σ6)) ∧
  (v1 = false →
    C_X9_fail l G d v0 5 σ fun r9 σ8 =>
    K r9 σ8)
set_option maxRecDepth 100000 in
set_option maxHeartbeats 4000000 in
theorem b_X9_passFirstWord_0 {l : Launch} {G : GG} {d : Nat} {v0 : Nat} {v1 : Bool} {σ : Hp} {K : Bool → Hp → Prop} (hf : F_X9_passFirstWord l G d v0 v1 σ K) : Wd l G (d + 1) "CoinsLaid$Telling" yX9_passFirstWord cX9_passFirstWord 2 (some FieldType.boolean) 0 [(0, aR (some v0)), (1, aI (bi v1))] [] σ 0 0 (xM (QZ K)) := by
  unfold F_X9_passFirstWord at hf
  refine r_iload_n (j := 1) rfl rfl dX9_passFirstWord_0 ?_
  refine r_ifneZ (b := v1) (tgt := 10) (by decide) dX9_passFirstWord_1 (fun hc => ?_) (fun hc => ?_)
  · replace hf := hf.1 hc
    refine r_aload_n (j := 0) rfl rfl dX9_passFirstWord_10 ?_
    obtain ⟨fs_x1, x1, ha_x1, hv_x1, hf⟩ := hf
    refine r_get (Cn := RX9) (Tt := TX9) (N := 8) (n := 2) rfl uw_X9 (Nat.le_of_ble_eq_true rfl) wd_2_104 ha_x1 hv_x1 dX9_passFirstWord_11 ?_
    obtain ⟨fs_x2, x2, ha_x2, hv_x2, hf⟩ := hf
    refine r_get (Cn := RX8) (Tt := TX8) (N := 9) (n := 7) rfl uw_X8 (Nat.le_of_ble_eq_true rfl) wd_2_78 ha_x2 hv_x2 dX9_passFirstWord_14 ?_
    refine r_ifeqZ (b := x2) (tgt := 27) (by decide) dX9_passFirstWord_17 (fun hc => ?_) (fun hc => ?_)
    · replace hf := hf.1 hc
      refine r_aload_n (j := 0) rfl rfl dX9_passFirstWord_27 ?_
      obtain ⟨fs_x3, x3, ha_x3, hv_x3, hf⟩ := hf
      refine r_get (Cn := RX9) (Tt := TX9) (N := 8) (n := 0) rfl uw_X9 (Nat.le_of_ble_eq_true rfl) wd_2_102 ha_x3 hv_x3 dX9_passFirstWord_28 ?_
      try unfold C_X10_advance at hf
      obtain ⟨⟨fs_r5, ha_r5⟩, hf⟩ := hf
      refine r_invVU (t := 10) (As := []) (dz := d) (mz := 0) (sz := 0) rfl wd_2_134 wd_2_135 wd_2_136 cf_X10_advance (Nat.le_refl _) (Nat.zero_le _) (Nat.zero_le _) (cat_ok (Nat.le_of_ble_eq_true rfl)) rfl rfl ha_r5 dX9_passFirstWord_31 hf (fun σ4 hk => ?_)
      replace hf := hk
      clear hk
      refine r_iconst (v := 1) (by decide) dX9_passFirstWord_34 ?_
      exact r_zreturn (b := true) rfl dX9_passFirstWord_35 rfl ⟨_, rfl, hf⟩
    · replace hf := hf.2 hc
      refine r_aload_n (j := 0) rfl rfl dX9_passFirstWord_20 ?_
      refine r_bipush (v := 6) (by decide) dX9_passFirstWord_21 ?_
      try unfold C_X9_fail at hf
      obtain ⟨⟨fs_r7, ha_r7⟩, hf⟩ := hf
      refine r_invVZ (t := 9) (As := [aI 6]) (dz := d) (mz := 0) (sz := 0) rfl wd_2_206 wd_2_208 wd_p_5 cf_X9_fail (Nat.le_refl _) (Nat.zero_le _) (Nat.zero_le _) (cat_ok (Nat.le_of_ble_eq_true rfl)) rfl rfl ha_r7 dX9_passFirstWord_23 hf (fun r7 σ6 hk => ?_)
      replace hf := hk
      clear hk
      exact r_zreturn (b := r7) rfl dX9_passFirstWord_26 rfl ⟨_, rfl, hf⟩
  · replace hf := hf.2 hc
    refine r_aload_n (j := 0) rfl rfl dX9_passFirstWord_4 ?_
    refine r_iconst (v := 5) (by decide) dX9_passFirstWord_5 ?_
    try unfold C_X9_fail at hf
    obtain ⟨⟨fs_r9, ha_r9⟩, hf⟩ := hf
    refine r_invVZ (t := 9) (As := [aI 5]) (dz := d) (mz := 0) (sz := 0) rfl wd_2_206 wd_2_208 wd_p_5 cf_X9_fail (Nat.le_refl _) (Nat.zero_le _) (Nat.zero_le _) (cat_ok (Nat.le_of_ble_eq_true rfl)) rfl rfl ha_r9 dX9_passFirstWord_6 hf (fun r9 σ8 hk => ?_)
    replace hf := hk
    clear hk
    exact r_zreturn (b := r9) rfl dX9_passFirstWord_9 rfl ⟨_, rfl, hf⟩
theorem m_X9_passFirstWord {l : Launch} {G : GG} {d : Nat} {v0 : Nat} {v1 : Bool} {σ : Hp} {K : Bool → Hp → Prop} (hr : rv σ v0 9) (hf : F_X9_passFirstWord l G d v0 v1 σ K) : C_X9_passFirstWord l G (d + 1) v0 v1 σ K := ⟨hr, Sp.of (by decide) (Nat.le_of_ble_eq_true rfl) (b_X9_passFirstWord_0 hf) rfl⟩
def F_X9_passNewName (l : Launch) (G : GG) (d : Nat) (v0 : Nat) (σ : Hp) (K : Bool → Hp → Prop) : Prop :=
  fN σ v0 9 0 fun x1 =>
  C_X10_isName l G d x1 σ fun r3 σ2 =>
  (r3 = true →
    fN σ2 v0 9 0 fun x4 =>
    C_X10_wordCode l G d x4 σ2 fun r6 σ5 =>
    pF σ5 v0 9 5 (aJ r6) fun σ7 =>
    fN σ7 v0 9 2 fun x9 =>
    fJ σ7 v0 9 5 fun x10 =>
    C_X8_isNameTold l G d x9 x10 σ7 fun r12 σ11 =>
    (r12 = false →
      fN σ11 v0 9 0 fun x13 =>
      C_X10_advance l G d x13 σ11 fun σ14 =>
      K true σ14) ∧
    (r12 = true →
      C_X9_fail l G d v0 3 σ11 fun r17 σ16 =>
      K r17 σ16)) ∧
  (r3 = false →
    C_X9_fail l G d v0 1 σ2 fun r19 σ18 =>
    K r19 σ18)
set_option maxRecDepth 100000 in
set_option maxHeartbeats 4000000 in
theorem b_X9_passNewName_0 {l : Launch} {G : GG} {d : Nat} {v0 : Nat} {σ : Hp} {K : Bool → Hp → Prop} (hf : F_X9_passNewName l G d v0 σ K) : Wd l G (d + 1) "CoinsLaid$Telling" yX9_passNewName cX9_passNewName 1 (some FieldType.boolean) 0 [(0, aR (some v0))] [] σ 0 0 (xM (QZ K)) := by
  unfold F_X9_passNewName at hf
  refine r_aload_n (j := 0) rfl rfl dX9_passNewName_0 ?_
  obtain ⟨fs_x1, x1, ha_x1, hv_x1, hf⟩ := hf
  refine r_get (Cn := RX9) (Tt := TX9) (N := 8) (n := 0) rfl uw_X9 (Nat.le_of_ble_eq_true rfl) wd_2_102 ha_x1 hv_x1 dX9_passNewName_1 ?_
  try unfold C_X10_isName at hf
  obtain ⟨⟨fs_r3, ha_r3⟩, hf⟩ := hf
  refine r_invVZ (t := 10) (As := []) (dz := d) (mz := 0) (sz := 0) rfl wd_2_234 wd_2_235 wd_2_236 cf_X10_isName (Nat.le_refl _) (Nat.zero_le _) (Nat.zero_le _) (cat_ok (Nat.le_of_ble_eq_true rfl)) rfl rfl ha_r3 dX9_passNewName_4 hf (fun r3 σ2 hk => ?_)
  replace hf := hk
  clear hk
  refine r_ifneZ (b := r3) (tgt := 16) (by decide) dX9_passNewName_7 (fun hc => ?_) (fun hc => ?_)
  · replace hf := hf.1 hc
    refine r_aload_n (j := 0) rfl rfl dX9_passNewName_16 ?_
    refine r_aload_n (j := 0) rfl rfl dX9_passNewName_17 ?_
    obtain ⟨fs_x4, x4, ha_x4, hv_x4, hf⟩ := hf
    refine r_get (Cn := RX9) (Tt := TX9) (N := 8) (n := 0) rfl uw_X9 (Nat.le_of_ble_eq_true rfl) wd_2_102 ha_x4 hv_x4 dX9_passNewName_18 ?_
    try unfold C_X10_wordCode at hf
    obtain ⟨⟨fs_r6, ha_r6⟩, hf⟩ := hf
    refine r_invVJ (t := 10) (As := []) (dz := d) (mz := 0) (sz := 0) rfl wd_3_4 wd_3_5 wd_3_6 cf_X10_wordCode (Nat.le_refl _) (Nat.zero_le _) (Nat.zero_le _) (cat_ok (Nat.le_of_ble_eq_true rfl)) rfl rfl ha_r6 dX9_passNewName_21 hf (fun r6 σ5 hk => ?_)
    replace hf := hk
    clear hk
    obtain ⟨fs_x8, ha_x8, hf⟩ := hf
    generalize hσ7 : hset σ5 v0 (.inl (9, fs_x8.set 5 (aJ r6))) = σ7 at hf
    refine r_put (Cn := RX9) (Tt := TX9) (N := 8) (n := 5) (v := aJ r6) rfl uw_X9 (Nat.le_of_ble_eq_true rfl) wd_2_110 ha_x8 (ty0 := tyX9) tyX9_ok nmX9 rfl (fo_J r6) dX9_passNewName_24 ?_
    rw [hσ7]
    refine r_aload_n (j := 0) rfl rfl dX9_passNewName_27 ?_
    obtain ⟨fs_x9, x9, ha_x9, hv_x9, hf⟩ := hf
    refine r_get (Cn := RX9) (Tt := TX9) (N := 8) (n := 2) rfl uw_X9 (Nat.le_of_ble_eq_true rfl) wd_2_104 ha_x9 hv_x9 dX9_passNewName_28 ?_
    refine r_aload_n (j := 0) rfl rfl dX9_passNewName_31 ?_
    obtain ⟨fs_x10, x10, ha_x10, hv_x10, hf⟩ := hf
    refine r_get (Cn := RX9) (Tt := TX9) (N := 8) (n := 5) rfl uw_X9 (Nat.le_of_ble_eq_true rfl) wd_2_110 ha_x10 hv_x10 dX9_passNewName_32 ?_
    try unfold C_X8_isNameTold at hf
    obtain ⟨⟨fs_r12, ha_r12⟩, hf⟩ := hf
    refine r_invVZ (t := 8) (As := [aJ x10]) (dz := d) (mz := 0) (sz := 0) rfl wd_3_9 wd_3_10 wd_3_11 cf_X8_isNameTold (Nat.le_refl _) (Nat.zero_le _) (Nat.zero_le _) (cat_ok (Nat.le_of_ble_eq_true rfl)) rfl rfl ha_r12 dX9_passNewName_35 hf (fun r12 σ11 hk => ?_)
    replace hf := hk
    clear hk
    refine r_ifeqZ (b := r12) (tgt := 47) (by decide) dX9_passNewName_38 (fun hc => ?_) (fun hc => ?_)
    · replace hf := hf.1 hc
      refine r_aload_n (j := 0) rfl rfl dX9_passNewName_47 ?_
      obtain ⟨fs_x13, x13, ha_x13, hv_x13, hf⟩ := hf
      refine r_get (Cn := RX9) (Tt := TX9) (N := 8) (n := 0) rfl uw_X9 (Nat.le_of_ble_eq_true rfl) wd_2_102 ha_x13 hv_x13 dX9_passNewName_48 ?_
      try unfold C_X10_advance at hf
      obtain ⟨⟨fs_r15, ha_r15⟩, hf⟩ := hf
      refine r_invVU (t := 10) (As := []) (dz := d) (mz := 0) (sz := 0) rfl wd_2_134 wd_2_135 wd_2_136 cf_X10_advance (Nat.le_refl _) (Nat.zero_le _) (Nat.zero_le _) (cat_ok (Nat.le_of_ble_eq_true rfl)) rfl rfl ha_r15 dX9_passNewName_51 hf (fun σ14 hk => ?_)
      replace hf := hk
      clear hk
      refine r_iconst (v := 1) (by decide) dX9_passNewName_54 ?_
      exact r_zreturn (b := true) rfl dX9_passNewName_55 rfl ⟨_, rfl, hf⟩
    · replace hf := hf.2 hc
      refine r_aload_n (j := 0) rfl rfl dX9_passNewName_41 ?_
      refine r_iconst (v := 3) (by decide) dX9_passNewName_42 ?_
      try unfold C_X9_fail at hf
      obtain ⟨⟨fs_r17, ha_r17⟩, hf⟩ := hf
      refine r_invVZ (t := 9) (As := [aI 3]) (dz := d) (mz := 0) (sz := 0) rfl wd_2_206 wd_2_208 wd_p_5 cf_X9_fail (Nat.le_refl _) (Nat.zero_le _) (Nat.zero_le _) (cat_ok (Nat.le_of_ble_eq_true rfl)) rfl rfl ha_r17 dX9_passNewName_43 hf (fun r17 σ16 hk => ?_)
      replace hf := hk
      clear hk
      exact r_zreturn (b := r17) rfl dX9_passNewName_46 rfl ⟨_, rfl, hf⟩
  · replace hf := hf.2 hc
    refine r_aload_n (j := 0) rfl rfl dX9_passNewName_10 ?_
    refine r_iconst (v := 1) (by decide) dX9_passNewName_11 ?_
    try unfold C_X9_fail at hf
    obtain ⟨⟨fs_r19, ha_r19⟩, hf⟩ := hf
    refine r_invVZ (t := 9) (As := [aI 1]) (dz := d) (mz := 0) (sz := 0) rfl wd_2_206 wd_2_208 wd_p_5 cf_X9_fail (Nat.le_refl _) (Nat.zero_le _) (Nat.zero_le _) (cat_ok (Nat.le_of_ble_eq_true rfl)) rfl rfl ha_r19 dX9_passNewName_12 hf (fun r19 σ18 hk => ?_)
    replace hf := hk
    clear hk
    exact r_zreturn (b := r19) rfl dX9_passNewName_15 rfl ⟨_, rfl, hf⟩
theorem m_X9_passNewName {l : Launch} {G : GG} {d : Nat} {v0 : Nat} {σ : Hp} {K : Bool → Hp → Prop} (hr : rv σ v0 9) (hf : F_X9_passNewName l G d v0 σ K) : C_X9_passNewName l G (d + 1) v0 σ K := ⟨hr, Sp.of (by decide) (Nat.le_of_ble_eq_true rfl) (b_X9_passNewName_0 hf) rfl⟩
def F_X9_isWholeWithin_44 (l : Launch) (G : GG) (d : Nat) (s0 : Bool) (σ : Hp) (K : Bool → Hp → Prop) : Prop :=
  K s0 σ
set_option maxRecDepth 100000 in
set_option maxHeartbeats 4000000 in
theorem b_X9_isWholeWithin_44 {l : Launch} {G : GG} {d : Nat} {s0 : Bool} {σ : Hp} {K : Bool → Hp → Prop} (hf : F_X9_isWholeWithin_44 l G d s0 σ K) : Wd l G (d + 1) "CoinsLaid$Telling" yX9_isWholeWithin cX9_isWholeWithin 4 (some FieldType.boolean) 44 [] [aI (bi s0)] σ 0 0 (xM (QZ K)) := by
  unfold F_X9_isWholeWithin_44 at hf
  exact r_zreturn (b := s0) rfl dX9_isWholeWithin_44 rfl ⟨_, rfl, hf⟩
def F_X9_isWholeWithin_35 (l : Launch) (G : GG) (d : Nat) (v0 : Nat) (σ : Hp) (K : Bool → Hp → Prop) : Prop :=
  C_X9_fail l G d v0 4 σ fun r2 σ1 =>
  F_X9_isWholeWithin_44 l G d r2 σ1 K
set_option maxRecDepth 100000 in
set_option maxHeartbeats 4000000 in
theorem b_X9_isWholeWithin_35 {l : Launch} {G : GG} {d : Nat} {v0 : Nat} {σ : Hp} {K : Bool → Hp → Prop} (hf : F_X9_isWholeWithin_35 l G d v0 σ K) : Wd l G (d + 1) "CoinsLaid$Telling" yX9_isWholeWithin cX9_isWholeWithin 4 (some FieldType.boolean) 35 [(0, aR (some v0))] [] σ 0 0 (xM (QZ K)) := by
  unfold F_X9_isWholeWithin_35 at hf
  refine r_aload_n (j := 0) rfl rfl dX9_isWholeWithin_35 ?_
  refine r_iconst (v := 4) (by decide) dX9_isWholeWithin_36 ?_
  try unfold C_X9_fail at hf
  obtain ⟨⟨fs_r2, ha_r2⟩, hf⟩ := hf
  refine r_invVZ (t := 9) (As := [aI 4]) (dz := d) (mz := 0) (sz := 0) rfl wd_2_206 wd_2_208 wd_p_5 cf_X9_fail (Nat.le_refl _) (Nat.zero_le _) (Nat.zero_le _) (cat_ok (Nat.le_of_ble_eq_true rfl)) rfl rfl ha_r2 dX9_isWholeWithin_37 hf (fun r2 σ1 hk => ?_)
  replace hf := hk
  clear hk
  refine r_goto (tgt := 44) (by decide) dX9_isWholeWithin_40 ?_
  exact r_sub [] rfl (b_X9_isWholeWithin_44 hf)
def F_X9_isWholeWithin (l : Launch) (G : GG) (d : Nat) (v0 : Nat) (v1 : Int32) (v2 : Int32) (σ : Hp) (K : Bool → Hp → Prop) : Prop :=
  fN σ v0 9 0 fun x3 =>
  fI σ x3 10 3 fun x4 =>
  ((x4 : Int32) = (2 : Int32) →
    fN σ v0 9 0 fun x5 =>
    C_X10_wholeValue l G d x5 σ fun r7 σ6 =>
    ((r7 : Int32) < (v1 : Int32) →
      F_X9_isWholeWithin_35 l G d v0 σ6 K) ∧
    (¬ (r7 : Int32) < (v1 : Int32) →
      ((r7 : Int32) ≤ (v2 : Int32) →
        F_X9_isWholeWithin_44 l G d true σ6 K) ∧
      (¬ (r7 : Int32) ≤ (v2 : Int32) →
        F_X9_isWholeWithin_35 l G d v0 σ6 K))) ∧
  (¬ (x4 : Int32) = (2 : Int32) →
    C_X9_fail l G d v0 1 σ fun r9 σ8 =>
    K r9 σ8)
set_option maxRecDepth 100000 in
set_option maxHeartbeats 4000000 in
theorem b_X9_isWholeWithin_0 {l : Launch} {G : GG} {d : Nat} {v0 : Nat} {v1 : Int32} {v2 : Int32} {σ : Hp} {K : Bool → Hp → Prop} (hf : F_X9_isWholeWithin l G d v0 v1 v2 σ K) : Wd l G (d + 1) "CoinsLaid$Telling" yX9_isWholeWithin cX9_isWholeWithin 4 (some FieldType.boolean) 0 [(0, aR (some v0)), (1, aI v1), (2, aI v2)] [] σ 0 0 (xM (QZ K)) := by
  unfold F_X9_isWholeWithin at hf
  refine r_aload_n (j := 0) rfl rfl dX9_isWholeWithin_0 ?_
  obtain ⟨fs_x3, x3, ha_x3, hv_x3, hf⟩ := hf
  refine r_get (Cn := RX9) (Tt := TX9) (N := 8) (n := 0) rfl uw_X9 (Nat.le_of_ble_eq_true rfl) wd_2_102 ha_x3 hv_x3 dX9_isWholeWithin_1 ?_
  obtain ⟨fs_x4, x4, ha_x4, hv_x4, hf⟩ := hf
  refine r_get (Cn := RX10) (Tt := TX10) (N := 5) (n := 3) rfl uw_X10 (Nat.le_of_ble_eq_true rfl) wd_2_4 ha_x4 hv_x4 dX9_isWholeWithin_4 ?_
  refine r_iconst (v := 2) (by decide) dX9_isWholeWithin_7 ?_
  refine r_icmpeq (x := x4) (y := 2) (tgt := 17) (by decide) dX9_isWholeWithin_8 (fun hc => ?_) (fun hc => ?_)
  · replace hf := hf.1 hc
    refine r_aload_n (j := 0) rfl rfl dX9_isWholeWithin_17 ?_
    obtain ⟨fs_x5, x5, ha_x5, hv_x5, hf⟩ := hf
    refine r_get (Cn := RX9) (Tt := TX9) (N := 8) (n := 0) rfl uw_X9 (Nat.le_of_ble_eq_true rfl) wd_2_102 ha_x5 hv_x5 dX9_isWholeWithin_18 ?_
    try unfold C_X10_wholeValue at hf
    obtain ⟨⟨fs_r7, ha_r7⟩, hf⟩ := hf
    refine r_invVI (t := 10) (As := []) (dz := d) (mz := 0) (sz := 0) rfl wd_3_41 wd_3_42 wd_3_43 cf_X10_wholeValue (Nat.le_refl _) (Nat.zero_le _) (Nat.zero_le _) (cat_ok (Nat.le_of_ble_eq_true rfl)) rfl rfl ha_r7 dX9_isWholeWithin_21 hf (fun r7 σ6 hk => ?_)
    replace hf := hk
    clear hk
    refine r_istore_n (L' := [(3, aI r7), (0, aR (some v0)), (1, aI v1), (2, aI v2)]) rfl rfl (Nat.le_of_ble_eq_true rfl) dX9_isWholeWithin_24 ?_
    refine r_iload_n (j := 0) rfl rfl dX9_isWholeWithin_25 ?_
    refine r_iload_n (j := 2) rfl rfl dX9_isWholeWithin_26 ?_
    refine r_icmplt (x := r7) (y := v1) (tgt := 35) (by decide) dX9_isWholeWithin_27 (fun hc => ?_) (fun hc => ?_)
    · replace hf := hf.1 hc
      exact r_sub [1] rfl (b_X9_isWholeWithin_35 hf)
    · replace hf := hf.2 hc
      refine r_iload_n (j := 0) rfl rfl dX9_isWholeWithin_30 ?_
      refine r_iload_n (j := 3) rfl rfl dX9_isWholeWithin_31 ?_
      refine r_icmple (x := r7) (y := v2) (tgt := 43) (by decide) dX9_isWholeWithin_32 (fun hc => ?_) (fun hc => ?_)
      · replace hf := hf.1 hc
        refine r_iconst (v := 1) (by decide) dX9_isWholeWithin_43 ?_
        exact r_sub [] rfl (b_X9_isWholeWithin_44 hf)
      · replace hf := hf.2 hc
        exact r_sub [1] rfl (b_X9_isWholeWithin_35 hf)
  · replace hf := hf.2 hc
    refine r_aload_n (j := 0) rfl rfl dX9_isWholeWithin_11 ?_
    refine r_iconst (v := 1) (by decide) dX9_isWholeWithin_12 ?_
    try unfold C_X9_fail at hf
    obtain ⟨⟨fs_r9, ha_r9⟩, hf⟩ := hf
    refine r_invVZ (t := 9) (As := [aI 1]) (dz := d) (mz := 0) (sz := 0) rfl wd_2_206 wd_2_208 wd_p_5 cf_X9_fail (Nat.le_refl _) (Nat.zero_le _) (Nat.zero_le _) (cat_ok (Nat.le_of_ble_eq_true rfl)) rfl rfl ha_r9 dX9_isWholeWithin_13 hf (fun r9 σ8 hk => ?_)
    replace hf := hk
    clear hk
    exact r_zreturn (b := r9) rfl dX9_isWholeWithin_16 rfl ⟨_, rfl, hf⟩
theorem m_X9_isWholeWithin {l : Launch} {G : GG} {d : Nat} {v0 : Nat} {v1 : Int32} {v2 : Int32} {σ : Hp} {K : Bool → Hp → Prop} (hr : rv σ v0 9) (hf : F_X9_isWholeWithin l G d v0 v1 v2 σ K) : C_X9_isWholeWithin l G (d + 1) v0 v1 v2 σ K := ⟨hr, Sp.of (by decide) (Nat.le_of_ble_eq_true rfl) (b_X9_isWholeWithin_0 hf) rfl⟩
def F_X9_passWord_17 (l : Launch) (G : GG) (d : Nat) (s0 : Bool) (σ : Hp) (K : Bool → Hp → Prop) : Prop :=
  K s0 σ
set_option maxRecDepth 100000 in
set_option maxHeartbeats 4000000 in
theorem b_X9_passWord_17 {l : Launch} {G : GG} {d : Nat} {s0 : Bool} {σ : Hp} {K : Bool → Hp → Prop} (hf : F_X9_passWord_17 l G d s0 σ K) : Wd l G (d + 1) "CoinsLaid$Telling" yX9_passWord cX9_passWord 2 (some FieldType.boolean) 17 [] [aI (bi s0)] σ 0 0 (xM (QZ K)) := by
  unfold F_X9_passWord_17 at hf
  exact r_zreturn (b := s0) rfl dX9_passWord_17 rfl ⟨_, rfl, hf⟩
def F_X9_passWord (l : Launch) (G : GG) (d : Nat) (v0 : Nat) (v1 : Nat) (σ : Hp) (K : Bool → Hp → Prop) : Prop :=
  C_X9_passPerhaps l G d v0 v1 σ fun r2 σ1 =>
  (r2 = false →
    C_X9_fail l G d v0 1 σ1 fun r4 σ3 =>
    F_X9_passWord_17 l G d r4 σ3 K) ∧
  (r2 = true →
    F_X9_passWord_17 l G d true σ1 K)
set_option maxRecDepth 100000 in
set_option maxHeartbeats 4000000 in
theorem b_X9_passWord_0 {l : Launch} {G : GG} {d : Nat} {v0 : Nat} {v1 : Nat} {σ : Hp} {K : Bool → Hp → Prop} (hf : F_X9_passWord l G d v0 v1 σ K) : Wd l G (d + 1) "CoinsLaid$Telling" yX9_passWord cX9_passWord 2 (some FieldType.boolean) 0 [(0, aR (some v0)), (1, aR (some v1))] [] σ 0 0 (xM (QZ K)) := by
  unfold F_X9_passWord at hf
  refine r_aload_n (j := 0) rfl rfl dX9_passWord_0 ?_
  refine r_aload_n (j := 1) rfl rfl dX9_passWord_1 ?_
  try unfold C_X9_passPerhaps at hf
  obtain ⟨⟨fs_r2, ha_r2⟩, hf⟩ := hf
  refine r_invVZ (t := 9) (As := [aR (some v1)]) (dz := d) (mz := 0) (sz := 0) rfl wd_2_213 wd_2_215 wd_p_6 cf_X9_passPerhaps (Nat.le_refl _) (Nat.zero_le _) (Nat.zero_le _) (cat_ok (Nat.le_of_ble_eq_true rfl)) rfl rfl ha_r2 dX9_passWord_2 hf (fun r2 σ1 hk => ?_)
  replace hf := hk
  clear hk
  refine r_ifeqZ (b := r2) (tgt := 12) (by decide) dX9_passWord_5 (fun hc => ?_) (fun hc => ?_)
  · replace hf := hf.1 hc
    refine r_aload_n (j := 0) rfl rfl dX9_passWord_12 ?_
    refine r_iconst (v := 1) (by decide) dX9_passWord_13 ?_
    try unfold C_X9_fail at hf
    obtain ⟨⟨fs_r4, ha_r4⟩, hf⟩ := hf
    refine r_invVZ (t := 9) (As := [aI 1]) (dz := d) (mz := 0) (sz := 0) rfl wd_2_206 wd_2_208 wd_p_5 cf_X9_fail (Nat.le_refl _) (Nat.zero_le _) (Nat.zero_le _) (cat_ok (Nat.le_of_ble_eq_true rfl)) rfl rfl ha_r4 dX9_passWord_14 hf (fun r4 σ3 hk => ?_)
    replace hf := hk
    clear hk
    exact r_sub [] rfl (b_X9_passWord_17 hf)
  · replace hf := hf.2 hc
    refine r_iconst (v := 1) (by decide) dX9_passWord_8 ?_
    refine r_goto (tgt := 17) (by decide) dX9_passWord_9 ?_
    exact r_sub [] rfl (b_X9_passWord_17 hf)
theorem m_X9_passWord {l : Launch} {G : GG} {d : Nat} {v0 : Nat} {v1 : Nat} {σ : Hp} {K : Bool → Hp → Prop} (hr : rv σ v0 9) (hf : F_X9_passWord l G d v0 v1 σ K) : C_X9_passWord l G (d + 1) v0 v1 σ K := ⟨hr, Sp.of (by decide) (Nat.le_of_ble_eq_true rfl) (b_X9_passWord_0 hf) rfl⟩
def F_X9_passPerhaps (l : Launch) (G : GG) (d : Nat) (v0 : Nat) (v1 : Nat) (σ : Hp) (K : Bool → Hp → Prop) : Prop :=
  fN σ v0 9 0 fun x1 =>
  C_X10_isWord l G d x1 v1 σ fun r3 σ2 =>
  (r3 = true →
    fN σ2 v0 9 0 fun x4 =>
    C_X10_advance l G d x4 σ2 fun σ5 =>
    K true σ5) ∧
  (r3 = false →
    K false σ2)
set_option maxRecDepth 100000 in
set_option maxHeartbeats 4000000 in
theorem b_X9_passPerhaps_0 {l : Launch} {G : GG} {d : Nat} {v0 : Nat} {v1 : Nat} {σ : Hp} {K : Bool → Hp → Prop} (hf : F_X9_passPerhaps l G d v0 v1 σ K) : Wd l G (d + 1) "CoinsLaid$Telling" yX9_passPerhaps cX9_passPerhaps 2 (some FieldType.boolean) 0 [(0, aR (some v0)), (1, aR (some v1))] [] σ 0 0 (xM (QZ K)) := by
  unfold F_X9_passPerhaps at hf
  refine r_aload_n (j := 0) rfl rfl dX9_passPerhaps_0 ?_
  obtain ⟨fs_x1, x1, ha_x1, hv_x1, hf⟩ := hf
  refine r_get (Cn := RX9) (Tt := TX9) (N := 8) (n := 0) rfl uw_X9 (Nat.le_of_ble_eq_true rfl) wd_2_102 ha_x1 hv_x1 dX9_passPerhaps_1 ?_
  refine r_aload_n (j := 1) rfl rfl dX9_passPerhaps_4 ?_
  try unfold C_X10_isWord at hf
  obtain ⟨⟨fs_r3, ha_r3⟩, hf⟩ := hf
  refine r_invVZ (t := 10) (As := [aR (some v1)]) (dz := d) (mz := 0) (sz := 0) rfl wd_2_150 wd_2_151 wd_2_152 cf_X10_isWord (Nat.le_refl _) (Nat.zero_le _) (Nat.zero_le _) (cat_ok (Nat.le_of_ble_eq_true rfl)) rfl rfl ha_r3 dX9_passPerhaps_5 hf (fun r3 σ2 hk => ?_)
  replace hf := hk
  clear hk
  refine r_ifneZ (b := r3) (tgt := 13) (by decide) dX9_passPerhaps_8 (fun hc => ?_) (fun hc => ?_)
  · replace hf := hf.1 hc
    refine r_aload_n (j := 0) rfl rfl dX9_passPerhaps_13 ?_
    obtain ⟨fs_x4, x4, ha_x4, hv_x4, hf⟩ := hf
    refine r_get (Cn := RX9) (Tt := TX9) (N := 8) (n := 0) rfl uw_X9 (Nat.le_of_ble_eq_true rfl) wd_2_102 ha_x4 hv_x4 dX9_passPerhaps_14 ?_
    try unfold C_X10_advance at hf
    obtain ⟨⟨fs_r6, ha_r6⟩, hf⟩ := hf
    refine r_invVU (t := 10) (As := []) (dz := d) (mz := 0) (sz := 0) rfl wd_2_134 wd_2_135 wd_2_136 cf_X10_advance (Nat.le_refl _) (Nat.zero_le _) (Nat.zero_le _) (cat_ok (Nat.le_of_ble_eq_true rfl)) rfl rfl ha_r6 dX9_passPerhaps_17 hf (fun σ5 hk => ?_)
    replace hf := hk
    clear hk
    refine r_iconst (v := 1) (by decide) dX9_passPerhaps_20 ?_
    exact r_zreturn (b := true) rfl dX9_passPerhaps_21 rfl ⟨_, rfl, hf⟩
  · replace hf := hf.2 hc
    refine r_iconst (v := 0) (by decide) dX9_passPerhaps_11 ?_
    exact r_zreturn (b := false) rfl dX9_passPerhaps_12 rfl ⟨_, rfl, hf⟩
theorem m_X9_passPerhaps {l : Launch} {G : GG} {d : Nat} {v0 : Nat} {v1 : Nat} {σ : Hp} {K : Bool → Hp → Prop} (hr : rv σ v0 9) (hf : F_X9_passPerhaps l G d v0 v1 σ K) : C_X9_passPerhaps l G (d + 1) v0 v1 σ K := ⟨hr, Sp.of (by decide) (Nat.le_of_ble_eq_true rfl) (b_X9_passPerhaps_0 hf) rfl⟩
def F_X9_passSign (l : Launch) (G : GG) (d : Nat) (v0 : Nat) (v1 : Int32) (σ : Hp) (K : Bool → Hp → Prop) : Prop :=
  fN σ v0 9 0 fun x1 =>
  C_X10_isSign l G d x1 v1 σ fun r3 σ2 =>
  (r3 = true →
    fN σ2 v0 9 0 fun x4 =>
    C_X10_advance l G d x4 σ2 fun σ5 =>
    K true σ5) ∧
  (r3 = false →
    C_X9_fail l G d v0 1 σ2 fun r8 σ7 =>
    K r8 σ7)
set_option maxRecDepth 100000 in
set_option maxHeartbeats 4000000 in
theorem b_X9_passSign_0 {l : Launch} {G : GG} {d : Nat} {v0 : Nat} {v1 : Int32} {σ : Hp} {K : Bool → Hp → Prop} (hf : F_X9_passSign l G d v0 v1 σ K) : Wd l G (d + 1) "CoinsLaid$Telling" yX9_passSign cX9_passSign 2 (some FieldType.boolean) 0 [(0, aR (some v0)), (1, aI v1)] [] σ 0 0 (xM (QZ K)) := by
  unfold F_X9_passSign at hf
  refine r_aload_n (j := 0) rfl rfl dX9_passSign_0 ?_
  obtain ⟨fs_x1, x1, ha_x1, hv_x1, hf⟩ := hf
  refine r_get (Cn := RX9) (Tt := TX9) (N := 8) (n := 0) rfl uw_X9 (Nat.le_of_ble_eq_true rfl) wd_2_102 ha_x1 hv_x1 dX9_passSign_1 ?_
  refine r_iload_n (j := 1) rfl rfl dX9_passSign_4 ?_
  try unfold C_X10_isSign at hf
  obtain ⟨⟨fs_r3, ha_r3⟩, hf⟩ := hf
  refine r_invVZ (t := 10) (As := [aI v1]) (dz := d) (mz := 0) (sz := 0) rfl wd_3_157 wd_3_158 wd_3_159 cf_X10_isSign (Nat.le_refl _) (Nat.zero_le _) (Nat.zero_le _) (cat_ok (Nat.le_of_ble_eq_true rfl)) rfl rfl ha_r3 dX9_passSign_5 hf (fun r3 σ2 hk => ?_)
  replace hf := hk
  clear hk
  refine r_ifneZ (b := r3) (tgt := 17) (by decide) dX9_passSign_8 (fun hc => ?_) (fun hc => ?_)
  · replace hf := hf.1 hc
    refine r_aload_n (j := 0) rfl rfl dX9_passSign_17 ?_
    obtain ⟨fs_x4, x4, ha_x4, hv_x4, hf⟩ := hf
    refine r_get (Cn := RX9) (Tt := TX9) (N := 8) (n := 0) rfl uw_X9 (Nat.le_of_ble_eq_true rfl) wd_2_102 ha_x4 hv_x4 dX9_passSign_18 ?_
    try unfold C_X10_advance at hf
    obtain ⟨⟨fs_r6, ha_r6⟩, hf⟩ := hf
    refine r_invVU (t := 10) (As := []) (dz := d) (mz := 0) (sz := 0) rfl wd_2_134 wd_2_135 wd_2_136 cf_X10_advance (Nat.le_refl _) (Nat.zero_le _) (Nat.zero_le _) (cat_ok (Nat.le_of_ble_eq_true rfl)) rfl rfl ha_r6 dX9_passSign_21 hf (fun σ5 hk => ?_)
    replace hf := hk
    clear hk
    refine r_iconst (v := 1) (by decide) dX9_passSign_24 ?_
    exact r_zreturn (b := true) rfl dX9_passSign_25 rfl ⟨_, rfl, hf⟩
  · replace hf := hf.2 hc
    refine r_aload_n (j := 0) rfl rfl dX9_passSign_11 ?_
    refine r_iconst (v := 1) (by decide) dX9_passSign_12 ?_
    try unfold C_X9_fail at hf
    obtain ⟨⟨fs_r8, ha_r8⟩, hf⟩ := hf
    refine r_invVZ (t := 9) (As := [aI 1]) (dz := d) (mz := 0) (sz := 0) rfl wd_2_206 wd_2_208 wd_p_5 cf_X9_fail (Nat.le_refl _) (Nat.zero_le _) (Nat.zero_le _) (cat_ok (Nat.le_of_ble_eq_true rfl)) rfl rfl ha_r8 dX9_passSign_13 hf (fun r8 σ7 hk => ?_)
    replace hf := hk
    clear hk
    exact r_zreturn (b := r8) rfl dX9_passSign_16 rfl ⟨_, rfl, hf⟩
theorem m_X9_passSign {l : Launch} {G : GG} {d : Nat} {v0 : Nat} {v1 : Int32} {σ : Hp} {K : Bool → Hp → Prop} (hr : rv σ v0 9) (hf : F_X9_passSign l G d v0 v1 σ K) : C_X9_passSign l G (d + 1) v0 v1 σ K := ⟨hr, Sp.of (by decide) (Nat.le_of_ble_eq_true rfl) (b_X9_passSign_0 hf) rfl⟩
def F_X9_fail (l : Launch) (G : GG) (d : Nat) (v0 : Nat) (v1 : Int32) (σ : Hp) (K : Bool → Hp → Prop) : Prop :=
  pF σ v0 9 3 (aI v1) fun σ1 =>
  fN σ1 v0 9 0 fun x3 =>
  fI σ1 x3 10 2 fun x4 =>
  pF σ1 v0 9 4 (aI x4) fun σ5 =>
  K false σ5
set_option maxRecDepth 100000 in
set_option maxHeartbeats 4000000 in
theorem b_X9_fail_0 {l : Launch} {G : GG} {d : Nat} {v0 : Nat} {v1 : Int32} {σ : Hp} {K : Bool → Hp → Prop} (hf : F_X9_fail l G d v0 v1 σ K) : Wd l G (d + 1) "CoinsLaid$Telling" yX9_fail cX9_fail 2 (some FieldType.boolean) 0 [(0, aR (some v0)), (1, aI v1)] [] σ 0 0 (xM (QZ K)) := by
  unfold F_X9_fail at hf
  refine r_aload_n (j := 0) rfl rfl dX9_fail_0 ?_
  refine r_iload_n (j := 1) rfl rfl dX9_fail_1 ?_
  obtain ⟨fs_x2, ha_x2, hf⟩ := hf
  generalize hσ1 : hset σ v0 (.inl (9, fs_x2.set 3 (aI v1))) = σ1 at hf
  refine r_put (Cn := RX9) (Tt := TX9) (N := 8) (n := 3) (v := aI v1) rfl uw_X9 (Nat.le_of_ble_eq_true rfl) wd_2_107 ha_x2 (ty0 := tyX9) tyX9_ok nmX9 rfl (fo_I v1) dX9_fail_2 ?_
  rw [hσ1]
  refine r_aload_n (j := 0) rfl rfl dX9_fail_5 ?_
  refine r_aload_n (j := 0) rfl rfl dX9_fail_6 ?_
  obtain ⟨fs_x3, x3, ha_x3, hv_x3, hf⟩ := hf
  refine r_get (Cn := RX9) (Tt := TX9) (N := 8) (n := 0) rfl uw_X9 (Nat.le_of_ble_eq_true rfl) wd_2_102 ha_x3 hv_x3 dX9_fail_7 ?_
  obtain ⟨fs_x4, x4, ha_x4, hv_x4, hf⟩ := hf
  refine r_get (Cn := RX10) (Tt := TX10) (N := 5) (n := 2) rfl uw_X10 (Nat.le_of_ble_eq_true rfl) wd_2_2 ha_x4 hv_x4 dX9_fail_10 ?_
  obtain ⟨fs_x6, ha_x6, hf⟩ := hf
  generalize hσ5 : hset σ1 v0 (.inl (9, fs_x6.set 4 (aI x4))) = σ5 at hf
  refine r_put (Cn := RX9) (Tt := TX9) (N := 8) (n := 4) (v := aI x4) rfl uw_X9 (Nat.le_of_ble_eq_true rfl) wd_2_109 ha_x6 (ty0 := tyX9) tyX9_ok nmX9 rfl (fo_I x4) dX9_fail_13 ?_
  rw [hσ5]
  refine r_iconst (v := 0) (by decide) dX9_fail_16 ?_
  exact r_zreturn (b := false) rfl dX9_fail_17 rfl ⟨_, rfl, hf⟩
theorem m_X9_fail {l : Launch} {G : GG} {d : Nat} {v0 : Nat} {v1 : Int32} {σ : Hp} {K : Bool → Hp → Prop} (hr : rv σ v0 9) (hf : F_X9_fail l G d v0 v1 σ K) : C_X9_fail l G (d + 1) v0 v1 σ K := ⟨hr, Sp.of (by decide) (Nat.le_of_ble_eq_true rfl) (b_X9_fail_0 hf) rfl⟩
