/-! 19.model2: written by wip/whole/gen.py -/
def F_X12_across_25 (l : Launch) (G : GG) (d : Nat) (s0 : Int32) (σ : Hp) (K : Int32 → Hp → Prop) : Prop :=
  K s0 σ
set_option maxRecDepth 100000 in
set_option maxHeartbeats 4000000 in
theorem b_X12_across_25 {l : Launch} {G : GG} {d : Nat} {s0 : Int32} {σ : Hp} {K : Int32 → Hp → Prop} (hf : F_X12_across_25 l G d s0 σ K) : Wd l G (d + 1) "CoinsLaidModel" yX12_across cX12_across 2 (some FieldType.int) 25 [] [aI s0] σ 0 0 (xM (QI K)) := by
  unfold F_X12_across_25 at hf
  exact r_ireturn rfl dX12_across_25 rfl ⟨_, rfl, hf⟩
def F_X12_across (l : Launch) (G : GG) (d : Nat) (v0 : Nat) (v1 : Int32) (σ : Hp) (K : Int32 → Hp → Prop) : Prop :=
  C_X12_clear l G d v0 σ fun σ1 =>
  C_X12_isLay l G d v0 v1 σ1 fun r4 σ3 =>
  (r4 = false →
    C_X12_no l G d v0 1 σ3 fun r6 σ5 =>
    F_X12_across_25 l G d r6 σ5 K) ∧
  (r4 = true →
    C_X12_acrossOf l G d v0 v1 σ3 fun r8 σ7 =>
    F_X12_across_25 l G d r8 σ7 K)
set_option maxRecDepth 100000 in
set_option maxHeartbeats 4000000 in
theorem b_X12_across_0 {l : Launch} {G : GG} {d : Nat} {v0 : Nat} {v1 : Int32} {σ : Hp} {K : Int32 → Hp → Prop} (hf : F_X12_across l G d v0 v1 σ K) : Wd l G (d + 1) "CoinsLaidModel" yX12_across cX12_across 2 (some FieldType.int) 0 [(0, aR (some v0)), (1, aI v1)] [] σ 0 0 (xM (QI K)) := by
  unfold F_X12_across at hf
  refine r_aload_n (j := 0) rfl rfl dX12_across_0 ?_
  try unfold C_X12_clear at hf
  obtain ⟨⟨fs_r2, ha_r2⟩, hf⟩ := hf
  refine r_invVU (t := 12) (As := []) (dz := d) (mz := 0) (sz := 0) rfl wd_7_85 wd_7_87 wd_p_49 cf_X12_clear (Nat.le_refl _) (Nat.zero_le _) (Nat.zero_le _) (cat_ok (Nat.le_of_ble_eq_true rfl)) rfl rfl ha_r2 dX12_across_1 hf (fun σ1 hk => ?_)
  replace hf := hk
  clear hk
  refine r_aload_n (j := 0) rfl rfl dX12_across_4 ?_
  refine r_iload_n (j := 1) rfl rfl dX12_across_5 ?_
  try unfold C_X12_isLay at hf
  obtain ⟨⟨fs_r4, ha_r4⟩, hf⟩ := hf
  refine r_invVZ (t := 12) (As := [aI v1]) (dz := d) (mz := 0) (sz := 0) rfl wd_8_10 wd_8_12 wd_p_75 cf_X12_isLay (Nat.le_refl _) (Nat.zero_le _) (Nat.zero_le _) (cat_ok (Nat.le_of_ble_eq_true rfl)) rfl rfl ha_r4 dX12_across_6 hf (fun r4 σ3 hk => ?_)
  replace hf := hk
  clear hk
  refine r_ifeqZ (b := r4) (tgt := 20) (by decide) dX12_across_9 (fun hc => ?_) (fun hc => ?_)
  · replace hf := hf.1 hc
    refine r_aload_n (j := 0) rfl rfl dX12_across_20 ?_
    refine r_iconst (v := 1) (by decide) dX12_across_21 ?_
    try unfold C_X12_no at hf
    obtain ⟨⟨fs_r6, ha_r6⟩, hf⟩ := hf
    refine r_invVI (t := 12) (As := [aI 1]) (dz := d) (mz := 0) (sz := 0) rfl wd_7_92 wd_7_94 wd_p_50 cf_X12_no (Nat.le_refl _) (Nat.zero_le _) (Nat.zero_le _) (cat_ok (Nat.le_of_ble_eq_true rfl)) rfl rfl ha_r6 dX12_across_22 hf (fun r6 σ5 hk => ?_)
    replace hf := hk
    clear hk
    exact r_sub [] rfl (b_X12_across_25 hf)
  · replace hf := hf.2 hc
    refine r_aload_n (j := 0) rfl rfl dX12_across_12 ?_
    refine r_iload_n (j := 1) rfl rfl dX12_across_13 ?_
    try unfold C_X12_acrossOf at hf
    obtain ⟨⟨fs_r8, ha_r8⟩, hf⟩ := hf
    refine r_invVI (t := 12) (As := [aI v1]) (dz := d) (mz := 0) (sz := 0) rfl wd_8_60 wd_8_62 wd_p_81 cf_X12_acrossOf (Nat.le_refl _) (Nat.zero_le _) (Nat.zero_le _) (cat_ok (Nat.le_of_ble_eq_true rfl)) rfl rfl ha_r8 dX12_across_14 hf (fun r8 σ7 hk => ?_)
    replace hf := hk
    clear hk
    refine r_goto (tgt := 25) (by decide) dX12_across_17 ?_
    exact r_sub [] rfl (b_X12_across_25 hf)
theorem m_X12_across {l : Launch} {G : GG} {d : Nat} {v0 : Nat} {v1 : Int32} {σ : Hp} {K : Int32 → Hp → Prop} (hr : rv σ v0 12) (hf : F_X12_across l G d v0 v1 σ K) : C_X12_across l G (d + 1) v0 v1 σ K := ⟨hr, Sp.of (by decide) (Nat.le_of_ble_eq_true rfl) (b_X12_across_0 hf) rfl⟩
def F_X12_taken_26 (l : Launch) (G : GG) (d : Nat) (s0 : Int32) (σ : Hp) (K : Int32 → Hp → Prop) : Prop :=
  K s0 σ
set_option maxRecDepth 100000 in
set_option maxHeartbeats 4000000 in
theorem b_X12_taken_26 {l : Launch} {G : GG} {d : Nat} {s0 : Int32} {σ : Hp} {K : Int32 → Hp → Prop} (hf : F_X12_taken_26 l G d s0 σ K) : Wd l G (d + 1) "CoinsLaidModel" yX12_taken cX12_taken 1 (some FieldType.int) 26 [] [aI s0] σ 0 0 (xM (QI K)) := by
  unfold F_X12_taken_26 at hf
  exact r_ireturn rfl dX12_taken_26 rfl ⟨_, rfl, hf⟩
def F_X12_taken (l : Launch) (G : GG) (d : Nat) (v0 : Nat) (σ : Hp) (K : Int32 → Hp → Prop) : Prop :=
  C_X12_clear l G d v0 σ fun σ1 =>
  fZ σ1 v0 12 14 fun x3 =>
  (x3 = false →
    C_X12_no l G d v0 1 σ1 fun r5 σ4 =>
    F_X12_taken_26 l G d r5 σ4 K) ∧
  (x3 = true →
    C_X12_standNow l G d v0 σ1 fun r7 σ6 =>
    C_X12_takenOf l G d r7 σ6 fun r9 σ8 =>
    F_X12_taken_26 l G d r9 σ8 K)
set_option maxRecDepth 100000 in
set_option maxHeartbeats 4000000 in
theorem b_X12_taken_0 {l : Launch} {G : GG} {d : Nat} {v0 : Nat} {σ : Hp} {K : Int32 → Hp → Prop} (hf : F_X12_taken l G d v0 σ K) : Wd l G (d + 1) "CoinsLaidModel" yX12_taken cX12_taken 1 (some FieldType.int) 0 [(0, aR (some v0))] [] σ 0 0 (xM (QI K)) := by
  unfold F_X12_taken at hf
  refine r_aload_n (j := 0) rfl rfl dX12_taken_0 ?_
  try unfold C_X12_clear at hf
  obtain ⟨⟨fs_r2, ha_r2⟩, hf⟩ := hf
  refine r_invVU (t := 12) (As := []) (dz := d) (mz := 0) (sz := 0) rfl wd_7_85 wd_7_87 wd_p_49 cf_X12_clear (Nat.le_refl _) (Nat.zero_le _) (Nat.zero_le _) (cat_ok (Nat.le_of_ble_eq_true rfl)) rfl rfl ha_r2 dX12_taken_1 hf (fun σ1 hk => ?_)
  replace hf := hk
  clear hk
  refine r_aload_n (j := 0) rfl rfl dX12_taken_4 ?_
  obtain ⟨fs_x3, x3, ha_x3, hv_x3, hf⟩ := hf
  refine r_get (Cn := RX12) (Tt := TX12) (N := 42) (n := 14) rfl uw_X12 (Nat.le_of_ble_eq_true rfl) wd_6_200 ha_x3 hv_x3 dX12_taken_5 ?_
  refine r_ifeqZ (b := x3) (tgt := 21) (by decide) dX12_taken_8 (fun hc => ?_) (fun hc => ?_)
  · replace hf := hf.1 hc
    refine r_aload_n (j := 0) rfl rfl dX12_taken_21 ?_
    refine r_iconst (v := 1) (by decide) dX12_taken_22 ?_
    try unfold C_X12_no at hf
    obtain ⟨⟨fs_r5, ha_r5⟩, hf⟩ := hf
    refine r_invVI (t := 12) (As := [aI 1]) (dz := d) (mz := 0) (sz := 0) rfl wd_7_92 wd_7_94 wd_p_50 cf_X12_no (Nat.le_refl _) (Nat.zero_le _) (Nat.zero_le _) (cat_ok (Nat.le_of_ble_eq_true rfl)) rfl rfl ha_r5 dX12_taken_23 hf (fun r5 σ4 hk => ?_)
    replace hf := hk
    clear hk
    exact r_sub [] rfl (b_X12_taken_26 hf)
  · replace hf := hf.2 hc
    refine r_aload_n (j := 0) rfl rfl dX12_taken_11 ?_
    try unfold C_X12_standNow at hf
    obtain ⟨⟨fs_r7, ha_r7⟩, hf⟩ := hf
    refine r_invVI (t := 12) (As := []) (dz := d) (mz := 0) (sz := 0) rfl wd_8_26 wd_8_28 wd_p_77 cf_X12_standNow (Nat.le_refl _) (Nat.zero_le _) (Nat.zero_le _) (cat_ok (Nat.le_of_ble_eq_true rfl)) rfl rfl ha_r7 dX12_taken_12 hf (fun r7 σ6 hk => ?_)
    replace hf := hk
    clear hk
    try unfold C_X12_takenOf at hf
    refine r_invSI (As := [aI r7]) (dz := d) (mz := 0) (sz := 0) rfl wd_8_34 wd_8_35 cf_X12_takenOf (Nat.le_refl _) (Nat.zero_le _) (Nat.zero_le _) (cat_ok (Nat.le_of_ble_eq_true rfl)) dX12_taken_15 hf (fun r9 σ8 hk => ?_)
    replace hf := hk
    clear hk
    refine r_goto (tgt := 26) (by decide) dX12_taken_18 ?_
    exact r_sub [] rfl (b_X12_taken_26 hf)
theorem m_X12_taken {l : Launch} {G : GG} {d : Nat} {v0 : Nat} {σ : Hp} {K : Int32 → Hp → Prop} (hr : rv σ v0 12) (hf : F_X12_taken l G d v0 σ K) : C_X12_taken l G (d + 1) v0 σ K := ⟨hr, Sp.of (by decide) (Nat.le_of_ble_eq_true rfl) (b_X12_taken_0 hf) rfl⟩
def F_X12_spoils_99 (l : Launch) (G : GG) (d : Nat) (X43 : Nat → Int32 → Int32 → Int32 → Int32 → Hp → Prop) (v0 : Nat) (v1 : Int32) (v2 : Int32) (v4 : Int32) (s0 : Int32) (s1 : Bool) (σ : Hp) (K : Int32 → Hp → Prop) : Prop :=
  X43 v0 v1 v2 (s0 + (bi s1)) (v4 + 1) σ
set_option maxRecDepth 100000 in
set_option maxHeartbeats 4000000 in
theorem b_X12_spoils_99 {l : Launch} {G : GG} {d : Nat} {X43 : Nat → Int32 → Int32 → Int32 → Int32 → Hp → Prop} {v0 : Nat} {v1 : Int32} {v2 : Int32} {v4 : Int32} {s0 : Int32} {s1 : Bool} {σ : Hp} {K : Int32 → Hp → Prop} (hX43 : ∀ v0 v1 v2 v3 v4 σ, X43 v0 v1 v2 v3 v4 σ → Wd l G (d + 1) "CoinsLaidModel" yX12_spoils cX12_spoils 5 (some FieldType.int) 43 [(0, aR (some v0)), (1, aI v1), (2, aI v2), (3, aI v3), (4, aI v4)] [] σ 0 0 (xM (QI K))) (hf : F_X12_spoils_99 l G d X43 v0 v1 v2 v4 s0 s1 σ K) : Wd l G (d + 1) "CoinsLaidModel" yX12_spoils cX12_spoils 5 (some FieldType.int) 99 [(0, aR (some v0)), (1, aI v1), (2, aI v2), (4, aI v4)] [aI (bi s1), aI s0] σ 0 0 (xM (QI K)) := by
  unfold F_X12_spoils_99 at hf
  refine r_iadd (x := s0) (y := (bi s1)) dX12_spoils_99 ?_
  refine r_istore_n (L' := [(3, aI (s0 + (bi s1))), (0, aR (some v0)), (1, aI v1), (2, aI v2), (4, aI v4)]) rfl rfl (Nat.le_of_ble_eq_true rfl) dX12_spoils_100 ?_
  refine r_iinc (j := 4) (w := (v4 + 1)) (L' := [(4, aI (v4 + 1)), (3, aI (s0 + (bi s1))), (0, aR (some v0)), (1, aI v1), (2, aI v2)]) rfl (by rfl) rfl (Nat.le_of_ble_eq_true rfl) dX12_spoils_101 ?_
  refine r_goto (tgt := 43) (by decide) dX12_spoils_104 ?_
  exact r_sub [2, 3, 4, 1, 0] rfl (hX43 _ _ _ _ _ _ hf)
def F_X12_spoils_98 (l : Launch) (G : GG) (d : Nat) (X43 : Nat → Int32 → Int32 → Int32 → Int32 → Hp → Prop) (v0 : Nat) (v1 : Int32) (v2 : Int32) (v4 : Int32) (s0 : Int32) (σ : Hp) (K : Int32 → Hp → Prop) : Prop :=
  F_X12_spoils_99 l G d X43 v0 v1 v2 v4 s0 false σ K
set_option maxRecDepth 100000 in
set_option maxHeartbeats 4000000 in
theorem b_X12_spoils_98 {l : Launch} {G : GG} {d : Nat} {X43 : Nat → Int32 → Int32 → Int32 → Int32 → Hp → Prop} {v0 : Nat} {v1 : Int32} {v2 : Int32} {v4 : Int32} {s0 : Int32} {σ : Hp} {K : Int32 → Hp → Prop} (hX43 : ∀ v0 v1 v2 v3 v4 σ, X43 v0 v1 v2 v3 v4 σ → Wd l G (d + 1) "CoinsLaidModel" yX12_spoils cX12_spoils 5 (some FieldType.int) 43 [(0, aR (some v0)), (1, aI v1), (2, aI v2), (3, aI v3), (4, aI v4)] [] σ 0 0 (xM (QI K))) (hf : F_X12_spoils_98 l G d X43 v0 v1 v2 v4 s0 σ K) : Wd l G (d + 1) "CoinsLaidModel" yX12_spoils cX12_spoils 5 (some FieldType.int) 98 [(0, aR (some v0)), (1, aI v1), (2, aI v2), (4, aI v4)] [aI s0] σ 0 0 (xM (QI K)) := by
  unfold F_X12_spoils_98 at hf
  refine r_iconst (v := 0) (by decide) dX12_spoils_98 ?_
  exact r_sub [0, 1, 2, 3] rfl (b_X12_spoils_99 hX43 hf)
def F_X12_spoils_43 (l : Launch) (G : GG) (d : Nat) (X43 : Nat → Int32 → Int32 → Int32 → Int32 → Hp → Prop) (v0 : Nat) (v1 : Int32) (v2 : Int32) (v3 : Int32) (v4 : Int32) (σ : Hp) (K : Int32 → Hp → Prop) : Prop :=
  fI σ v0 12 30 fun x1 =>
  ((x1 : Int32) ≤ (v4 : Int32) →
    K v3 σ) ∧
  (¬ (x1 : Int32) ≤ (v4 : Int32) →
    fN σ v0 12 15 fun x2 =>
    C_X12_takenOf l G d v2 σ fun r4 σ3 =>
    C_X12_isFree l G d v0 x2 r4 v4 σ3 fun r6 σ5 =>
    (r6 = false →
      F_X12_spoils_98 l G d X43 v0 v1 v2 v4 v3 σ5 K) ∧
    (r6 = true →
      fN σ5 v0 12 15 fun x7 =>
      C_X12_takenOf l G d v2 σ5 fun r9 σ8 =>
      fN σ8 v0 12 28 fun x10 =>
      gI σ8 x10 v1 fun x11 =>
      C_X12_isFree l G d v0 x7 (r9 ||| x11) v4 σ8 fun r13 σ12 =>
      (r13 = true →
        F_X12_spoils_98 l G d X43 v0 v1 v2 v4 v3 σ12 K) ∧
      (r13 = false →
        F_X12_spoils_99 l G d X43 v0 v1 v2 v4 v3 true σ12 K)))
set_option maxRecDepth 100000 in
set_option maxHeartbeats 4000000 in
theorem b_X12_spoils_43 {l : Launch} {G : GG} {d : Nat} {X43 : Nat → Int32 → Int32 → Int32 → Int32 → Hp → Prop} {v0 : Nat} {v1 : Int32} {v2 : Int32} {v3 : Int32} {v4 : Int32} {σ : Hp} {K : Int32 → Hp → Prop} (hX43 : ∀ v0 v1 v2 v3 v4 σ, X43 v0 v1 v2 v3 v4 σ → Wd l G (d + 1) "CoinsLaidModel" yX12_spoils cX12_spoils 5 (some FieldType.int) 43 [(0, aR (some v0)), (1, aI v1), (2, aI v2), (3, aI v3), (4, aI v4)] [] σ 0 0 (xM (QI K))) (hf : F_X12_spoils_43 l G d X43 v0 v1 v2 v3 v4 σ K) : Wd l G (d + 1) "CoinsLaidModel" yX12_spoils cX12_spoils 5 (some FieldType.int) 43 [(0, aR (some v0)), (1, aI v1), (2, aI v2), (3, aI v3), (4, aI v4)] [] σ 0 0 (xM (QI K)) := by
  unfold F_X12_spoils_43 at hf
  refine r_iload (j := 4) rfl dX12_spoils_43 ?_
  refine r_aload_n (j := 0) rfl rfl dX12_spoils_45 ?_
  obtain ⟨fs_x1, x1, ha_x1, hv_x1, hf⟩ := hf
  refine r_get (Cn := RX12) (Tt := TX12) (N := 42) (n := 30) rfl uw_X12 (Nat.le_of_ble_eq_true rfl) wd_6_216 ha_x1 hv_x1 dX12_spoils_46 ?_
  refine r_icmpge (x := v4) (y := x1) (tgt := 107) (by decide) dX12_spoils_49 (fun hc => ?_) (fun hc => ?_)
  · replace hf := hf.1 hc
    refine r_iload_n (j := 3) rfl rfl dX12_spoils_107 ?_
    exact r_ireturn rfl dX12_spoils_108 rfl ⟨_, rfl, hf⟩
  · replace hf := hf.2 hc
    refine r_iload_n (j := 3) rfl rfl dX12_spoils_52 ?_
    refine r_aload_n (j := 0) rfl rfl dX12_spoils_53 ?_
    refine r_aload_n (j := 0) rfl rfl dX12_spoils_54 ?_
    obtain ⟨fs_x2, x2, ha_x2, hv_x2, hf⟩ := hf
    refine r_get (Cn := RX12) (Tt := TX12) (N := 42) (n := 15) rfl uw_X12 (Nat.le_of_ble_eq_true rfl) wd_6_201 ha_x2 hv_x2 dX12_spoils_55 ?_
    refine r_iload_n (j := 2) rfl rfl dX12_spoils_58 ?_
    try unfold C_X12_takenOf at hf
    refine r_invSI (As := [aI v2]) (dz := d) (mz := 0) (sz := 0) rfl wd_8_34 wd_8_35 cf_X12_takenOf (Nat.le_refl _) (Nat.zero_le _) (Nat.zero_le _) (cat_ok (Nat.le_of_ble_eq_true rfl)) dX12_spoils_59 hf (fun r4 σ3 hk => ?_)
    replace hf := hk
    clear hk
    refine r_iload (j := 4) rfl dX12_spoils_62 ?_
    try unfold C_X12_isFree at hf
    obtain ⟨⟨fs_r6, ha_r6⟩, hf⟩ := hf
    refine r_invVZ (t := 12) (As := [aR (some x2), aI r4, aI v4]) (dz := d) (mz := 0) (sz := 0) rfl wd_7_226 wd_7_228 wd_p_73 cf_X12_isFree (Nat.le_refl _) (Nat.zero_le _) (Nat.zero_le _) (cat_ok (Nat.le_of_ble_eq_true rfl)) rfl rfl ha_r6 dX12_spoils_64 hf (fun r6 σ5 hk => ?_)
    replace hf := hk
    clear hk
    refine r_ifeqZ (b := r6) (tgt := 98) (by decide) dX12_spoils_67 (fun hc => ?_) (fun hc => ?_)
    · replace hf := hf.1 hc
      exact r_sub [0, 1, 2, 4] rfl (b_X12_spoils_98 hX43 hf)
    · replace hf := hf.2 hc
      refine r_aload_n (j := 0) rfl rfl dX12_spoils_70 ?_
      refine r_aload_n (j := 0) rfl rfl dX12_spoils_71 ?_
      obtain ⟨fs_x7, x7, ha_x7, hv_x7, hf⟩ := hf
      refine r_get (Cn := RX12) (Tt := TX12) (N := 42) (n := 15) rfl uw_X12 (Nat.le_of_ble_eq_true rfl) wd_6_201 ha_x7 hv_x7 dX12_spoils_72 ?_
      refine r_iload_n (j := 2) rfl rfl dX12_spoils_75 ?_
      try unfold C_X12_takenOf at hf
      refine r_invSI (As := [aI v2]) (dz := d) (mz := 0) (sz := 0) rfl wd_8_34 wd_8_35 cf_X12_takenOf (Nat.le_refl _) (Nat.zero_le _) (Nat.zero_le _) (cat_ok (Nat.le_of_ble_eq_true rfl)) dX12_spoils_76 hf (fun r9 σ8 hk => ?_)
      replace hf := hk
      clear hk
      refine r_aload_n (j := 0) rfl rfl dX12_spoils_79 ?_
      obtain ⟨fs_x10, x10, ha_x10, hv_x10, hf⟩ := hf
      refine r_get (Cn := RX12) (Tt := TX12) (N := 42) (n := 28) rfl uw_X12 (Nat.le_of_ble_eq_true rfl) wd_6_214 ha_x10 hv_x10 dX12_spoils_80 ?_
      refine r_iload_n (j := 1) rfl rfl dX12_spoils_83 ?_
      obtain ⟨N_x11, f_x11, ha_x11, hi_x11, hf⟩ := hf
      refine r_iald ha_x11 hi_x11 dX12_spoils_84 ?_
      generalize f_x11 (v1 : Int32).toNatClampNeg = x11 at hf ⊢
      refine r_ior (x := r9) (y := x11) dX12_spoils_85 ?_
      refine r_iload (j := 4) rfl dX12_spoils_86 ?_
      try unfold C_X12_isFree at hf
      obtain ⟨⟨fs_r13, ha_r13⟩, hf⟩ := hf
      refine r_invVZ (t := 12) (As := [aR (some x7), aI (r9 ||| x11), aI v4]) (dz := d) (mz := 0) (sz := 0) rfl wd_7_226 wd_7_228 wd_p_73 cf_X12_isFree (Nat.le_refl _) (Nat.zero_le _) (Nat.zero_le _) (cat_ok (Nat.le_of_ble_eq_true rfl)) rfl rfl ha_r13 dX12_spoils_88 hf (fun r13 σ12 hk => ?_)
      replace hf := hk
      clear hk
      refine r_ifneZ (b := r13) (tgt := 98) (by decide) dX12_spoils_91 (fun hc => ?_) (fun hc => ?_)
      · replace hf := hf.1 hc
        exact r_sub [0, 1, 2, 4] rfl (b_X12_spoils_98 hX43 hf)
      · replace hf := hf.2 hc
        refine r_iconst (v := 1) (by decide) dX12_spoils_94 ?_
        refine r_goto (tgt := 99) (by decide) dX12_spoils_95 ?_
        exact r_sub [0, 1, 2, 4] rfl (b_X12_spoils_99 hX43 hf)
def Z_X12_spoils_43 (l : Launch) (G : GG) (d : Nat) (K : Int32 → Hp → Prop) : Nat → Nat → Int32 → Int32 → Int32 → Int32 → Hp → Prop
  | 0 => fun _ _ _ _ _ _ => False
  | n + 1 => fun v0 v1 v2 v3 v4 σ => F_X12_spoils_43 l G d (Z_X12_spoils_43 l G d K n) v0 v1 v2 v3 v4 σ K
theorem z_X12_spoils_43 {l : Launch} {G : GG} {d : Nat} {K : Int32 → Hp → Prop} : ∀ (n : Nat) v0 v1 v2 v3 v4 σ, Z_X12_spoils_43 l G d K n v0 v1 v2 v3 v4 σ → Wd l G (d + 1) "CoinsLaidModel" yX12_spoils cX12_spoils 5 (some FieldType.int) 43 [(0, aR (some v0)), (1, aI v1), (2, aI v2), (3, aI v3), (4, aI v4)] [] σ 0 0 (xM (QI K)) := by
  intro n
  induction n with
  | zero => intro v0 v1 v2 v3 v4 σ hf; exact hf.elim
  | succ n ih => intro v0 v1 v2 v3 v4 σ hf; exact b_X12_spoils_43 ih hf
def F_X12_spoils (l : Launch) (G : GG) (d : Nat) (v0 : Nat) (v1 : Int32) (σ : Hp) (K : Int32 → Hp → Prop) : Prop :=
  C_X12_clear l G d v0 σ fun σ14 =>
  C_X12_isLay l G d v0 v1 σ14 fun r17 σ16 =>
  (r17 = true →
    C_X12_standNow l G d v0 σ16 fun r19 σ18 =>
    C_X12_mayBe l G d v0 r19 v1 σ18 fun r21 σ20 =>
    (r21 = true →
      ∃ n, Z_X12_spoils_43 l G d K n v0 v1 r19 0 0 σ20) ∧
    (r21 = false →
      C_X12_no l G d v0 5 σ20 fun r23 σ22 =>
      K r23 σ22)) ∧
  (r17 = false →
    C_X12_no l G d v0 1 σ16 fun r25 σ24 =>
    K r25 σ24)
set_option maxRecDepth 100000 in
set_option maxHeartbeats 4000000 in
theorem b_X12_spoils_0 {l : Launch} {G : GG} {d : Nat} {v0 : Nat} {v1 : Int32} {σ : Hp} {K : Int32 → Hp → Prop} (hf : F_X12_spoils l G d v0 v1 σ K) : Wd l G (d + 1) "CoinsLaidModel" yX12_spoils cX12_spoils 5 (some FieldType.int) 0 [(0, aR (some v0)), (1, aI v1)] [] σ 0 0 (xM (QI K)) := by
  unfold F_X12_spoils at hf
  refine r_aload_n (j := 0) rfl rfl dX12_spoils_0 ?_
  try unfold C_X12_clear at hf
  obtain ⟨⟨fs_r15, ha_r15⟩, hf⟩ := hf
  refine r_invVU (t := 12) (As := []) (dz := d) (mz := 0) (sz := 0) rfl wd_7_85 wd_7_87 wd_p_49 cf_X12_clear (Nat.le_refl _) (Nat.zero_le _) (Nat.zero_le _) (cat_ok (Nat.le_of_ble_eq_true rfl)) rfl rfl ha_r15 dX12_spoils_1 hf (fun σ14 hk => ?_)
  replace hf := hk
  clear hk
  refine r_aload_n (j := 0) rfl rfl dX12_spoils_4 ?_
  refine r_iload_n (j := 1) rfl rfl dX12_spoils_5 ?_
  try unfold C_X12_isLay at hf
  obtain ⟨⟨fs_r17, ha_r17⟩, hf⟩ := hf
  refine r_invVZ (t := 12) (As := [aI v1]) (dz := d) (mz := 0) (sz := 0) rfl wd_8_10 wd_8_12 wd_p_75 cf_X12_isLay (Nat.le_refl _) (Nat.zero_le _) (Nat.zero_le _) (cat_ok (Nat.le_of_ble_eq_true rfl)) rfl rfl ha_r17 dX12_spoils_6 hf (fun r17 σ16 hk => ?_)
  replace hf := hk
  clear hk
  refine r_ifneZ (b := r17) (tgt := 18) (by decide) dX12_spoils_9 (fun hc => ?_) (fun hc => ?_)
  · replace hf := hf.1 hc
    refine r_aload_n (j := 0) rfl rfl dX12_spoils_18 ?_
    try unfold C_X12_standNow at hf
    obtain ⟨⟨fs_r19, ha_r19⟩, hf⟩ := hf
    refine r_invVI (t := 12) (As := []) (dz := d) (mz := 0) (sz := 0) rfl wd_8_26 wd_8_28 wd_p_77 cf_X12_standNow (Nat.le_refl _) (Nat.zero_le _) (Nat.zero_le _) (cat_ok (Nat.le_of_ble_eq_true rfl)) rfl rfl ha_r19 dX12_spoils_19 hf (fun r19 σ18 hk => ?_)
    replace hf := hk
    clear hk
    refine r_istore_n (L' := [(2, aI r19), (0, aR (some v0)), (1, aI v1)]) rfl rfl (Nat.le_of_ble_eq_true rfl) dX12_spoils_22 ?_
    refine r_aload_n (j := 1) rfl rfl dX12_spoils_23 ?_
    refine r_iload_n (j := 0) rfl rfl dX12_spoils_24 ?_
    refine r_iload_n (j := 2) rfl rfl dX12_spoils_25 ?_
    try unfold C_X12_mayBe at hf
    obtain ⟨⟨fs_r21, ha_r21⟩, hf⟩ := hf
    refine r_invVZ (t := 12) (As := [aI r19, aI v1]) (dz := d) (mz := 0) (sz := 0) rfl wd_8_30 wd_8_32 wd_p_78 cf_X12_mayBe (Nat.le_refl _) (Nat.zero_le _) (Nat.zero_le _) (cat_ok (Nat.le_of_ble_eq_true rfl)) rfl rfl ha_r21 dX12_spoils_26 hf (fun r21 σ20 hk => ?_)
    replace hf := hk
    clear hk
    refine r_ifneZ (b := r21) (tgt := 38) (by decide) dX12_spoils_29 (fun hc => ?_) (fun hc => ?_)
    · replace hf := hf.1 hc
      refine r_iconst (v := 0) (by decide) dX12_spoils_38 ?_
      refine r_istore_n (L' := [(3, aI 0), (2, aI r19), (0, aR (some v0)), (1, aI v1)]) rfl rfl (Nat.le_of_ble_eq_true rfl) dX12_spoils_39 ?_
      refine r_iconst (v := 0) (by decide) dX12_spoils_40 ?_
      refine r_istore (L' := [(4, aI 0), (3, aI 0), (2, aI r19), (0, aR (some v0)), (1, aI v1)]) rfl (Nat.le_of_ble_eq_true rfl) dX12_spoils_41 ?_
      obtain ⟨n, hf⟩ := hf
      exact r_sub [3, 4, 2, 1, 0] rfl (z_X12_spoils_43 n _ _ _ _ _ _ hf)
    · replace hf := hf.2 hc
      refine r_aload_n (j := 1) rfl rfl dX12_spoils_32 ?_
      refine r_iconst (v := 5) (by decide) dX12_spoils_33 ?_
      try unfold C_X12_no at hf
      obtain ⟨⟨fs_r23, ha_r23⟩, hf⟩ := hf
      refine r_invVI (t := 12) (As := [aI 5]) (dz := d) (mz := 0) (sz := 0) rfl wd_7_92 wd_7_94 wd_p_50 cf_X12_no (Nat.le_refl _) (Nat.zero_le _) (Nat.zero_le _) (cat_ok (Nat.le_of_ble_eq_true rfl)) rfl rfl ha_r23 dX12_spoils_34 hf (fun r23 σ22 hk => ?_)
      replace hf := hk
      clear hk
      exact r_ireturn rfl dX12_spoils_37 rfl ⟨_, rfl, hf⟩
  · replace hf := hf.2 hc
    refine r_aload_n (j := 0) rfl rfl dX12_spoils_12 ?_
    refine r_iconst (v := 1) (by decide) dX12_spoils_13 ?_
    try unfold C_X12_no at hf
    obtain ⟨⟨fs_r25, ha_r25⟩, hf⟩ := hf
    refine r_invVI (t := 12) (As := [aI 1]) (dz := d) (mz := 0) (sz := 0) rfl wd_7_92 wd_7_94 wd_p_50 cf_X12_no (Nat.le_refl _) (Nat.zero_le _) (Nat.zero_le _) (cat_ok (Nat.le_of_ble_eq_true rfl)) rfl rfl ha_r25 dX12_spoils_14 hf (fun r25 σ24 hk => ?_)
    replace hf := hk
    clear hk
    exact r_ireturn rfl dX12_spoils_17 rfl ⟨_, rfl, hf⟩
theorem m_X12_spoils {l : Launch} {G : GG} {d : Nat} {v0 : Nat} {v1 : Int32} {σ : Hp} {K : Int32 → Hp → Prop} (hr : rv σ v0 12) (hf : F_X12_spoils l G d v0 v1 σ K) : C_X12_spoils l G (d + 1) v0 v1 σ K := ⟨hr, Sp.of (by decide) (Nat.le_of_ble_eq_true rfl) (b_X12_spoils_0 hf) rfl⟩
def F_X12_open_27 (l : Launch) (G : GG) (d : Nat) (v0 : Nat) (σ : Hp) (K : Int32 → Hp → Prop) : Prop :=
  C_X12_no l G d v0 1 σ fun r2 σ1 =>
  K r2 σ1
set_option maxRecDepth 100000 in
set_option maxHeartbeats 4000000 in
theorem b_X12_open_27 {l : Launch} {G : GG} {d : Nat} {v0 : Nat} {σ : Hp} {K : Int32 → Hp → Prop} (hf : F_X12_open_27 l G d v0 σ K) : Wd l G (d + 1) "CoinsLaidModel" yX12_open cX12_open 4 (some FieldType.int) 27 [(0, aR (some v0))] [] σ 0 0 (xM (QI K)) := by
  unfold F_X12_open_27 at hf
  refine r_aload_n (j := 0) rfl rfl dX12_open_27 ?_
  refine r_iconst (v := 1) (by decide) dX12_open_28 ?_
  try unfold C_X12_no at hf
  obtain ⟨⟨fs_r2, ha_r2⟩, hf⟩ := hf
  refine r_invVI (t := 12) (As := [aI 1]) (dz := d) (mz := 0) (sz := 0) rfl wd_7_92 wd_7_94 wd_p_50 cf_X12_no (Nat.le_refl _) (Nat.zero_le _) (Nat.zero_le _) (cat_ok (Nat.le_of_ble_eq_true rfl)) rfl rfl ha_r2 dX12_open_29 hf (fun r2 σ1 hk => ?_)
  replace hf := hk
  clear hk
  exact r_ireturn rfl dX12_open_32 rfl ⟨_, rfl, hf⟩
def F_X12_open_83 (l : Launch) (G : GG) (d : Nat) (X37 : Nat → Int32 → Int32 → Int32 → Hp → Prop) (v0 : Nat) (v1 : Int32) (v3 : Int32) (s0 : Int32) (s1 : Bool) (σ : Hp) (K : Int32 → Hp → Prop) : Prop :=
  X37 v0 v1 (s0 + (bi s1)) (v3 + 1) σ
set_option maxRecDepth 100000 in
set_option maxHeartbeats 4000000 in
theorem b_X12_open_83 {l : Launch} {G : GG} {d : Nat} {X37 : Nat → Int32 → Int32 → Int32 → Hp → Prop} {v0 : Nat} {v1 : Int32} {v3 : Int32} {s0 : Int32} {s1 : Bool} {σ : Hp} {K : Int32 → Hp → Prop} (hX37 : ∀ v0 v1 v2 v3 σ, X37 v0 v1 v2 v3 σ → Wd l G (d + 1) "CoinsLaidModel" yX12_open cX12_open 4 (some FieldType.int) 37 [(0, aR (some v0)), (1, aI v1), (2, aI v2), (3, aI v3)] [] σ 0 0 (xM (QI K))) (hf : F_X12_open_83 l G d X37 v0 v1 v3 s0 s1 σ K) : Wd l G (d + 1) "CoinsLaidModel" yX12_open cX12_open 4 (some FieldType.int) 83 [(0, aR (some v0)), (1, aI v1), (3, aI v3)] [aI (bi s1), aI s0] σ 0 0 (xM (QI K)) := by
  unfold F_X12_open_83 at hf
  refine r_iadd (x := s0) (y := (bi s1)) dX12_open_83 ?_
  refine r_istore_n (L' := [(2, aI (s0 + (bi s1))), (0, aR (some v0)), (1, aI v1), (3, aI v3)]) rfl rfl (Nat.le_of_ble_eq_true rfl) dX12_open_84 ?_
  refine r_iinc (j := 3) (w := (v3 + 1)) (L' := [(3, aI (v3 + 1)), (2, aI (s0 + (bi s1))), (0, aR (some v0)), (1, aI v1)]) rfl (by rfl) rfl (Nat.le_of_ble_eq_true rfl) dX12_open_85 ?_
  refine r_goto (tgt := 37) (by decide) dX12_open_88 ?_
  exact r_sub [2, 3, 1, 0] rfl (hX37 _ _ _ _ _ hf)
def F_X12_open_82 (l : Launch) (G : GG) (d : Nat) (X37 : Nat → Int32 → Int32 → Int32 → Hp → Prop) (v0 : Nat) (v1 : Int32) (v3 : Int32) (s0 : Int32) (σ : Hp) (K : Int32 → Hp → Prop) : Prop :=
  F_X12_open_83 l G d X37 v0 v1 v3 s0 false σ K
set_option maxRecDepth 100000 in
set_option maxHeartbeats 4000000 in
theorem b_X12_open_82 {l : Launch} {G : GG} {d : Nat} {X37 : Nat → Int32 → Int32 → Int32 → Hp → Prop} {v0 : Nat} {v1 : Int32} {v3 : Int32} {s0 : Int32} {σ : Hp} {K : Int32 → Hp → Prop} (hX37 : ∀ v0 v1 v2 v3 σ, X37 v0 v1 v2 v3 σ → Wd l G (d + 1) "CoinsLaidModel" yX12_open cX12_open 4 (some FieldType.int) 37 [(0, aR (some v0)), (1, aI v1), (2, aI v2), (3, aI v3)] [] σ 0 0 (xM (QI K))) (hf : F_X12_open_82 l G d X37 v0 v1 v3 s0 σ K) : Wd l G (d + 1) "CoinsLaidModel" yX12_open cX12_open 4 (some FieldType.int) 82 [(0, aR (some v0)), (1, aI v1), (3, aI v3)] [aI s0] σ 0 0 (xM (QI K)) := by
  unfold F_X12_open_82 at hf
  refine r_iconst (v := 0) (by decide) dX12_open_82 ?_
  exact r_sub [0, 1, 2] rfl (b_X12_open_83 hX37 hf)
def F_X12_open_37 (l : Launch) (G : GG) (d : Nat) (X37 : Nat → Int32 → Int32 → Int32 → Hp → Prop) (v0 : Nat) (v1 : Int32) (v2 : Int32) (v3 : Int32) (σ : Hp) (K : Int32 → Hp → Prop) : Prop :=
  fI σ v0 12 30 fun x3 =>
  ((x3 : Int32) ≤ (v3 : Int32) →
    K v2 σ) ∧
  (¬ (x3 : Int32) ≤ (v3 : Int32) →
    fN σ v0 12 28 fun x4 =>
    gI σ x4 v3 fun x5 =>
    C_X12_hasBit l G d x5 v1 σ fun r7 σ6 =>
    (r7 = false →
      F_X12_open_82 l G d X37 v0 v1 v3 v2 σ6 K) ∧
    (r7 = true →
      fN σ6 v0 12 15 fun x8 =>
      C_X12_standNow l G d v0 σ6 fun r10 σ9 =>
      C_X12_takenOf l G d r10 σ9 fun r12 σ11 =>
      C_X12_isFree l G d v0 x8 r12 v3 σ11 fun r14 σ13 =>
      (r14 = false →
        F_X12_open_82 l G d X37 v0 v1 v3 v2 σ13 K) ∧
      (r14 = true →
        F_X12_open_83 l G d X37 v0 v1 v3 v2 true σ13 K)))
set_option maxRecDepth 100000 in
set_option maxHeartbeats 4000000 in
theorem b_X12_open_37 {l : Launch} {G : GG} {d : Nat} {X37 : Nat → Int32 → Int32 → Int32 → Hp → Prop} {v0 : Nat} {v1 : Int32} {v2 : Int32} {v3 : Int32} {σ : Hp} {K : Int32 → Hp → Prop} (hX37 : ∀ v0 v1 v2 v3 σ, X37 v0 v1 v2 v3 σ → Wd l G (d + 1) "CoinsLaidModel" yX12_open cX12_open 4 (some FieldType.int) 37 [(0, aR (some v0)), (1, aI v1), (2, aI v2), (3, aI v3)] [] σ 0 0 (xM (QI K))) (hf : F_X12_open_37 l G d X37 v0 v1 v2 v3 σ K) : Wd l G (d + 1) "CoinsLaidModel" yX12_open cX12_open 4 (some FieldType.int) 37 [(0, aR (some v0)), (1, aI v1), (2, aI v2), (3, aI v3)] [] σ 0 0 (xM (QI K)) := by
  unfold F_X12_open_37 at hf
  refine r_iload_n (j := 3) rfl rfl dX12_open_37 ?_
  refine r_aload_n (j := 0) rfl rfl dX12_open_38 ?_
  obtain ⟨fs_x3, x3, ha_x3, hv_x3, hf⟩ := hf
  refine r_get (Cn := RX12) (Tt := TX12) (N := 42) (n := 30) rfl uw_X12 (Nat.le_of_ble_eq_true rfl) wd_6_216 ha_x3 hv_x3 dX12_open_39 ?_
  refine r_icmpge (x := v3) (y := x3) (tgt := 91) (by decide) dX12_open_42 (fun hc => ?_) (fun hc => ?_)
  · replace hf := hf.1 hc
    refine r_iload_n (j := 2) rfl rfl dX12_open_91 ?_
    exact r_ireturn rfl dX12_open_92 rfl ⟨_, rfl, hf⟩
  · replace hf := hf.2 hc
    refine r_iload_n (j := 2) rfl rfl dX12_open_45 ?_
    refine r_aload_n (j := 0) rfl rfl dX12_open_46 ?_
    obtain ⟨fs_x4, x4, ha_x4, hv_x4, hf⟩ := hf
    refine r_get (Cn := RX12) (Tt := TX12) (N := 42) (n := 28) rfl uw_X12 (Nat.le_of_ble_eq_true rfl) wd_6_214 ha_x4 hv_x4 dX12_open_47 ?_
    refine r_iload_n (j := 3) rfl rfl dX12_open_50 ?_
    obtain ⟨N_x5, f_x5, ha_x5, hi_x5, hf⟩ := hf
    refine r_iald ha_x5 hi_x5 dX12_open_51 ?_
    generalize f_x5 (v3 : Int32).toNatClampNeg = x5 at hf ⊢
    refine r_iload_n (j := 1) rfl rfl dX12_open_52 ?_
    try unfold C_X12_hasBit at hf
    refine r_invSZ (As := [aI x5, aI v1]) (dz := d) (mz := 0) (sz := 0) rfl wd_7_182 wd_7_183 cf_X12_hasBit (Nat.le_refl _) (Nat.zero_le _) (Nat.zero_le _) (cat_ok (Nat.le_of_ble_eq_true rfl)) dX12_open_53 hf (fun r7 σ6 hk => ?_)
    replace hf := hk
    clear hk
    refine r_ifeqZ (b := r7) (tgt := 82) (by decide) dX12_open_56 (fun hc => ?_) (fun hc => ?_)
    · replace hf := hf.1 hc
      exact r_sub [0, 1, 3] rfl (b_X12_open_82 hX37 hf)
    · replace hf := hf.2 hc
      refine r_aload_n (j := 0) rfl rfl dX12_open_59 ?_
      refine r_aload_n (j := 0) rfl rfl dX12_open_60 ?_
      obtain ⟨fs_x8, x8, ha_x8, hv_x8, hf⟩ := hf
      refine r_get (Cn := RX12) (Tt := TX12) (N := 42) (n := 15) rfl uw_X12 (Nat.le_of_ble_eq_true rfl) wd_6_201 ha_x8 hv_x8 dX12_open_61 ?_
      refine r_aload_n (j := 0) rfl rfl dX12_open_64 ?_
      try unfold C_X12_standNow at hf
      obtain ⟨⟨fs_r10, ha_r10⟩, hf⟩ := hf
      refine r_invVI (t := 12) (As := []) (dz := d) (mz := 0) (sz := 0) rfl wd_8_26 wd_8_28 wd_p_77 cf_X12_standNow (Nat.le_refl _) (Nat.zero_le _) (Nat.zero_le _) (cat_ok (Nat.le_of_ble_eq_true rfl)) rfl rfl ha_r10 dX12_open_65 hf (fun r10 σ9 hk => ?_)
      replace hf := hk
      clear hk
      try unfold C_X12_takenOf at hf
      refine r_invSI (As := [aI r10]) (dz := d) (mz := 0) (sz := 0) rfl wd_8_34 wd_8_35 cf_X12_takenOf (Nat.le_refl _) (Nat.zero_le _) (Nat.zero_le _) (cat_ok (Nat.le_of_ble_eq_true rfl)) dX12_open_68 hf (fun r12 σ11 hk => ?_)
      replace hf := hk
      clear hk
      refine r_iload_n (j := 3) rfl rfl dX12_open_71 ?_
      try unfold C_X12_isFree at hf
      obtain ⟨⟨fs_r14, ha_r14⟩, hf⟩ := hf
      refine r_invVZ (t := 12) (As := [aR (some x8), aI r12, aI v3]) (dz := d) (mz := 0) (sz := 0) rfl wd_7_226 wd_7_228 wd_p_73 cf_X12_isFree (Nat.le_refl _) (Nat.zero_le _) (Nat.zero_le _) (cat_ok (Nat.le_of_ble_eq_true rfl)) rfl rfl ha_r14 dX12_open_72 hf (fun r14 σ13 hk => ?_)
      replace hf := hk
      clear hk
      refine r_ifeqZ (b := r14) (tgt := 82) (by decide) dX12_open_75 (fun hc => ?_) (fun hc => ?_)
      · replace hf := hf.1 hc
        exact r_sub [0, 1, 3] rfl (b_X12_open_82 hX37 hf)
      · replace hf := hf.2 hc
        refine r_iconst (v := 1) (by decide) dX12_open_78 ?_
        refine r_goto (tgt := 83) (by decide) dX12_open_79 ?_
        exact r_sub [0, 1, 3] rfl (b_X12_open_83 hX37 hf)
def Z_X12_open_37 (l : Launch) (G : GG) (d : Nat) (K : Int32 → Hp → Prop) : Nat → Nat → Int32 → Int32 → Int32 → Hp → Prop
  | 0 => fun _ _ _ _ _ => False
  | n + 1 => fun v0 v1 v2 v3 σ => F_X12_open_37 l G d (Z_X12_open_37 l G d K n) v0 v1 v2 v3 σ K
theorem z_X12_open_37 {l : Launch} {G : GG} {d : Nat} {K : Int32 → Hp → Prop} : ∀ (n : Nat) v0 v1 v2 v3 σ, Z_X12_open_37 l G d K n v0 v1 v2 v3 σ → Wd l G (d + 1) "CoinsLaidModel" yX12_open cX12_open 4 (some FieldType.int) 37 [(0, aR (some v0)), (1, aI v1), (2, aI v2), (3, aI v3)] [] σ 0 0 (xM (QI K)) := by
  intro n
  induction n with
  | zero => intro v0 v1 v2 v3 σ hf; exact hf.elim
  | succ n ih => intro v0 v1 v2 v3 σ hf; exact b_X12_open_37 ih hf
def F_X12_open (l : Launch) (G : GG) (d : Nat) (v0 : Nat) (v1 : Int32) (σ : Hp) (K : Int32 → Hp → Prop) : Prop :=
  C_X12_clear l G d v0 σ fun σ15 =>
  fZ σ15 v0 12 14 fun x17 =>
  (x17 = false →
    F_X12_open_27 l G d v0 σ15 K) ∧
  (x17 = true →
    fN σ15 v0 12 15 fun x18 =>
    gI σ15 x18 5 fun x19 =>
    C_X12_within l G d v1 0 (x19 - 1) σ15 fun r21 σ20 =>
    (r21 = true →
      ∃ n, Z_X12_open_37 l G d K n v0 v1 0 0 σ20) ∧
    (r21 = false →
      F_X12_open_27 l G d v0 σ20 K))
set_option maxRecDepth 100000 in
set_option maxHeartbeats 4000000 in
theorem b_X12_open_0 {l : Launch} {G : GG} {d : Nat} {v0 : Nat} {v1 : Int32} {σ : Hp} {K : Int32 → Hp → Prop} (hf : F_X12_open l G d v0 v1 σ K) : Wd l G (d + 1) "CoinsLaidModel" yX12_open cX12_open 4 (some FieldType.int) 0 [(0, aR (some v0)), (1, aI v1)] [] σ 0 0 (xM (QI K)) := by
  unfold F_X12_open at hf
  refine r_aload_n (j := 0) rfl rfl dX12_open_0 ?_
  try unfold C_X12_clear at hf
  obtain ⟨⟨fs_r16, ha_r16⟩, hf⟩ := hf
  refine r_invVU (t := 12) (As := []) (dz := d) (mz := 0) (sz := 0) rfl wd_7_85 wd_7_87 wd_p_49 cf_X12_clear (Nat.le_refl _) (Nat.zero_le _) (Nat.zero_le _) (cat_ok (Nat.le_of_ble_eq_true rfl)) rfl rfl ha_r16 dX12_open_1 hf (fun σ15 hk => ?_)
  replace hf := hk
  clear hk
  refine r_aload_n (j := 0) rfl rfl dX12_open_4 ?_
  obtain ⟨fs_x17, x17, ha_x17, hv_x17, hf⟩ := hf
  refine r_get (Cn := RX12) (Tt := TX12) (N := 42) (n := 14) rfl uw_X12 (Nat.le_of_ble_eq_true rfl) wd_6_200 ha_x17 hv_x17 dX12_open_5 ?_
  refine r_ifeqZ (b := x17) (tgt := 27) (by decide) dX12_open_8 (fun hc => ?_) (fun hc => ?_)
  · replace hf := hf.1 hc
    exact r_sub [0] rfl (b_X12_open_27 hf)
  · replace hf := hf.2 hc
    refine r_iload_n (j := 1) rfl rfl dX12_open_11 ?_
    refine r_iconst (v := 0) (by decide) dX12_open_12 ?_
    refine r_aload_n (j := 0) rfl rfl dX12_open_13 ?_
    obtain ⟨fs_x18, x18, ha_x18, hv_x18, hf⟩ := hf
    refine r_get (Cn := RX12) (Tt := TX12) (N := 42) (n := 15) rfl uw_X12 (Nat.le_of_ble_eq_true rfl) wd_6_201 ha_x18 hv_x18 dX12_open_14 ?_
    refine r_iconst (v := 5) (by decide) dX12_open_17 ?_
    obtain ⟨N_x19, f_x19, ha_x19, hi_x19, hf⟩ := hf
    refine r_iald ha_x19 hi_x19 dX12_open_18 ?_
    generalize f_x19 (5 : Int32).toNatClampNeg = x19 at hf ⊢
    refine r_iconst (v := 1) (by decide) dX12_open_19 ?_
    refine r_isub (x := x19) (y := 1) dX12_open_20 ?_
    try unfold C_X12_within at hf
    refine r_invSZ (As := [aI v1, aI 0, aI (x19 - 1)]) (dz := d) (mz := 0) (sz := 0) rfl wd_7_89 wd_7_90 cf_X12_within (Nat.le_refl _) (Nat.zero_le _) (Nat.zero_le _) (cat_ok (Nat.le_of_ble_eq_true rfl)) dX12_open_21 hf (fun r21 σ20 hk => ?_)
    replace hf := hk
    clear hk
    refine r_ifneZ (b := r21) (tgt := 33) (by decide) dX12_open_24 (fun hc => ?_) (fun hc => ?_)
    · replace hf := hf.1 hc
      refine r_iconst (v := 0) (by decide) dX12_open_33 ?_
      refine r_istore_n (L' := [(2, aI 0), (0, aR (some v0)), (1, aI v1)]) rfl rfl (Nat.le_of_ble_eq_true rfl) dX12_open_34 ?_
      refine r_iconst (v := 0) (by decide) dX12_open_35 ?_
      refine r_istore_n (L' := [(3, aI 0), (2, aI 0), (0, aR (some v0)), (1, aI v1)]) rfl rfl (Nat.le_of_ble_eq_true rfl) dX12_open_36 ?_
      obtain ⟨n, hf⟩ := hf
      exact r_sub [2, 3, 1, 0] rfl (z_X12_open_37 n _ _ _ _ _ hf)
    · replace hf := hf.2 hc
      exact r_sub [0] rfl (b_X12_open_27 hf)
theorem m_X12_open {l : Launch} {G : GG} {d : Nat} {v0 : Nat} {v1 : Int32} {σ : Hp} {K : Int32 → Hp → Prop} (hr : rv σ v0 12) (hf : F_X12_open l G d v0 v1 σ K) : C_X12_open l G (d + 1) v0 v1 σ K := ⟨hr, Sp.of (by decide) (Nat.le_of_ble_eq_true rfl) (b_X12_open_0 hf) rfl⟩
def F_X12_dead_84 (l : Launch) (G : GG) (d : Nat) (X52 : Nat → Int32 → Int32 → Int32 → Hp → Prop) (v0 : Nat) (v1 : Int32) (v2 : Int32) (v3 : Int32) (σ : Hp) (K : Int32 → Hp → Prop) : Prop :=
  X52 v0 v1 v2 (v3 + 1) σ
set_option maxRecDepth 100000 in
set_option maxHeartbeats 4000000 in
theorem b_X12_dead_84 {l : Launch} {G : GG} {d : Nat} {X52 : Nat → Int32 → Int32 → Int32 → Hp → Prop} {v0 : Nat} {v1 : Int32} {v2 : Int32} {v3 : Int32} {σ : Hp} {K : Int32 → Hp → Prop} (hX52 : ∀ v0 v1 v2 v3 σ, X52 v0 v1 v2 v3 σ → Wd l G (d + 1) "CoinsLaidModel" yX12_dead cX12_dead 4 (some FieldType.int) 52 [(0, aR (some v0)), (1, aI v1), (2, aI v2), (3, aI v3)] [] σ 0 0 (xM (QI K))) (hf : F_X12_dead_84 l G d X52 v0 v1 v2 v3 σ K) : Wd l G (d + 1) "CoinsLaidModel" yX12_dead cX12_dead 4 (some FieldType.int) 84 [(0, aR (some v0)), (1, aI v1), (2, aI v2), (3, aI v3)] [] σ 0 0 (xM (QI K)) := by
  unfold F_X12_dead_84 at hf
  refine r_iinc (j := 3) (w := (v3 + 1)) (L' := [(3, aI (v3 + 1)), (0, aR (some v0)), (1, aI v1), (2, aI v2)]) rfl (by rfl) rfl (Nat.le_of_ble_eq_true rfl) dX12_dead_84 ?_
  refine r_goto (tgt := 52) (by decide) dX12_dead_87 ?_
  exact r_sub [1, 2, 3, 0] rfl (hX52 _ _ _ _ _ hf)
def F_X12_dead_52 (l : Launch) (G : GG) (d : Nat) (X52 : Nat → Int32 → Int32 → Int32 → Hp → Prop) (v0 : Nat) (v1 : Int32) (v2 : Int32) (v3 : Int32) (σ : Hp) (K : Int32 → Hp → Prop) : Prop :=
  fI σ v0 12 30 fun x1 =>
  ((x1 : Int32) ≤ (v3 : Int32) →
    K v2 σ) ∧
  (¬ (x1 : Int32) ≤ (v3 : Int32) →
    fN σ v0 12 15 fun x2 =>
    C_X12_isFree l G d v0 x2 v1 v3 σ fun r4 σ3 =>
    (r4 = false →
      F_X12_dead_84 l G d X52 v0 v1 v2 v3 σ3 K) ∧
    (r4 = true →
      fN σ3 v0 12 28 fun x5 =>
      gI σ3 x5 v3 fun x6 =>
      F_X12_dead_84 l G d X52 v0 v1 (v2 &&& (x6 ^^^ (-1))) v3 σ3 K))
set_option maxRecDepth 100000 in
set_option maxHeartbeats 4000000 in
theorem b_X12_dead_52 {l : Launch} {G : GG} {d : Nat} {X52 : Nat → Int32 → Int32 → Int32 → Hp → Prop} {v0 : Nat} {v1 : Int32} {v2 : Int32} {v3 : Int32} {σ : Hp} {K : Int32 → Hp → Prop} (hX52 : ∀ v0 v1 v2 v3 σ, X52 v0 v1 v2 v3 σ → Wd l G (d + 1) "CoinsLaidModel" yX12_dead cX12_dead 4 (some FieldType.int) 52 [(0, aR (some v0)), (1, aI v1), (2, aI v2), (3, aI v3)] [] σ 0 0 (xM (QI K))) (hf : F_X12_dead_52 l G d X52 v0 v1 v2 v3 σ K) : Wd l G (d + 1) "CoinsLaidModel" yX12_dead cX12_dead 4 (some FieldType.int) 52 [(0, aR (some v0)), (1, aI v1), (2, aI v2), (3, aI v3)] [] σ 0 0 (xM (QI K)) := by
  unfold F_X12_dead_52 at hf
  refine r_iload_n (j := 3) rfl rfl dX12_dead_52 ?_
  refine r_aload_n (j := 0) rfl rfl dX12_dead_53 ?_
  obtain ⟨fs_x1, x1, ha_x1, hv_x1, hf⟩ := hf
  refine r_get (Cn := RX12) (Tt := TX12) (N := 42) (n := 30) rfl uw_X12 (Nat.le_of_ble_eq_true rfl) wd_6_216 ha_x1 hv_x1 dX12_dead_54 ?_
  refine r_icmpge (x := v3) (y := x1) (tgt := 90) (by decide) dX12_dead_57 (fun hc => ?_) (fun hc => ?_)
  · replace hf := hf.1 hc
    refine r_iload_n (j := 2) rfl rfl dX12_dead_90 ?_
    exact r_ireturn rfl dX12_dead_91 rfl ⟨_, rfl, hf⟩
  · replace hf := hf.2 hc
    refine r_aload_n (j := 0) rfl rfl dX12_dead_60 ?_
    refine r_aload_n (j := 0) rfl rfl dX12_dead_61 ?_
    obtain ⟨fs_x2, x2, ha_x2, hv_x2, hf⟩ := hf
    refine r_get (Cn := RX12) (Tt := TX12) (N := 42) (n := 15) rfl uw_X12 (Nat.le_of_ble_eq_true rfl) wd_6_201 ha_x2 hv_x2 dX12_dead_62 ?_
    refine r_iload_n (j := 1) rfl rfl dX12_dead_65 ?_
    refine r_iload_n (j := 3) rfl rfl dX12_dead_66 ?_
    try unfold C_X12_isFree at hf
    obtain ⟨⟨fs_r4, ha_r4⟩, hf⟩ := hf
    refine r_invVZ (t := 12) (As := [aR (some x2), aI v1, aI v3]) (dz := d) (mz := 0) (sz := 0) rfl wd_7_226 wd_7_228 wd_p_73 cf_X12_isFree (Nat.le_refl _) (Nat.zero_le _) (Nat.zero_le _) (cat_ok (Nat.le_of_ble_eq_true rfl)) rfl rfl ha_r4 dX12_dead_67 hf (fun r4 σ3 hk => ?_)
    replace hf := hk
    clear hk
    refine r_ifeqZ (b := r4) (tgt := 84) (by decide) dX12_dead_70 (fun hc => ?_) (fun hc => ?_)
    · replace hf := hf.1 hc
      exact r_sub [0, 1, 2, 3] rfl (b_X12_dead_84 hX52 hf)
    · replace hf := hf.2 hc
      refine r_iload_n (j := 2) rfl rfl dX12_dead_73 ?_
      refine r_aload_n (j := 0) rfl rfl dX12_dead_74 ?_
      obtain ⟨fs_x5, x5, ha_x5, hv_x5, hf⟩ := hf
      refine r_get (Cn := RX12) (Tt := TX12) (N := 42) (n := 28) rfl uw_X12 (Nat.le_of_ble_eq_true rfl) wd_6_214 ha_x5 hv_x5 dX12_dead_75 ?_
      refine r_iload_n (j := 3) rfl rfl dX12_dead_78 ?_
      obtain ⟨N_x6, f_x6, ha_x6, hi_x6, hf⟩ := hf
      refine r_iald ha_x6 hi_x6 dX12_dead_79 ?_
      generalize f_x6 (v3 : Int32).toNatClampNeg = x6 at hf ⊢
      refine r_iconst (v := (-1)) (by decide) dX12_dead_80 ?_
      refine r_ixor (x := x6) (y := (-1)) dX12_dead_81 ?_
      refine r_iand (x := v2) (y := (x6 ^^^ (-1))) dX12_dead_82 ?_
      refine r_istore_n (L' := [(2, aI (v2 &&& (x6 ^^^ (-1)))), (0, aR (some v0)), (1, aI v1), (3, aI v3)]) rfl rfl (Nat.le_of_ble_eq_true rfl) dX12_dead_83 ?_
      exact r_sub [1, 2, 0, 3] rfl (b_X12_dead_84 hX52 hf)
def Z_X12_dead_52 (l : Launch) (G : GG) (d : Nat) (K : Int32 → Hp → Prop) : Nat → Nat → Int32 → Int32 → Int32 → Hp → Prop
  | 0 => fun _ _ _ _ _ => False
  | n + 1 => fun v0 v1 v2 v3 σ => F_X12_dead_52 l G d (Z_X12_dead_52 l G d K n) v0 v1 v2 v3 σ K
theorem z_X12_dead_52 {l : Launch} {G : GG} {d : Nat} {K : Int32 → Hp → Prop} : ∀ (n : Nat) v0 v1 v2 v3 σ, Z_X12_dead_52 l G d K n v0 v1 v2 v3 σ → Wd l G (d + 1) "CoinsLaidModel" yX12_dead cX12_dead 4 (some FieldType.int) 52 [(0, aR (some v0)), (1, aI v1), (2, aI v2), (3, aI v3)] [] σ 0 0 (xM (QI K)) := by
  intro n
  induction n with
  | zero => intro v0 v1 v2 v3 σ hf; exact hf.elim
  | succ n ih => intro v0 v1 v2 v3 σ hf; exact b_X12_dead_52 ih hf
def F_X12_dead (l : Launch) (G : GG) (d : Nat) (v0 : Nat) (σ : Hp) (K : Int32 → Hp → Prop) : Prop :=
  C_X12_clear l G d v0 σ fun σ7 =>
  fZ σ7 v0 12 14 fun x9 =>
  (x9 = true →
    C_X12_standNow l G d v0 σ7 fun r11 σ10 =>
    C_X12_takenOf l G d r11 σ10 fun r13 σ12 =>
    fN σ12 v0 12 15 fun x14 =>
    gI σ12 x14 5 fun x15 =>
    fN σ12 v0 12 15 fun x16 =>
    gI σ12 x16 16 fun x17 =>
    ∃ n, Z_X12_dead_52 l G d K n v0 r13 ((((1 <<< (x15 &&& 31)) - 1) &&& (r13 ^^^ (-1))) &&& (x17 ^^^ (-1))) 0 σ12) ∧
  (x9 = false →
    C_X12_no l G d v0 1 σ7 fun r19 σ18 =>
    K r19 σ18)
set_option maxRecDepth 100000 in
set_option maxHeartbeats 4000000 in
theorem b_X12_dead_0 {l : Launch} {G : GG} {d : Nat} {v0 : Nat} {σ : Hp} {K : Int32 → Hp → Prop} (hf : F_X12_dead l G d v0 σ K) : Wd l G (d + 1) "CoinsLaidModel" yX12_dead cX12_dead 4 (some FieldType.int) 0 [(0, aR (some v0))] [] σ 0 0 (xM (QI K)) := by
  unfold F_X12_dead at hf
  refine r_aload_n (j := 0) rfl rfl dX12_dead_0 ?_
  try unfold C_X12_clear at hf
  obtain ⟨⟨fs_r8, ha_r8⟩, hf⟩ := hf
  refine r_invVU (t := 12) (As := []) (dz := d) (mz := 0) (sz := 0) rfl wd_7_85 wd_7_87 wd_p_49 cf_X12_clear (Nat.le_refl _) (Nat.zero_le _) (Nat.zero_le _) (cat_ok (Nat.le_of_ble_eq_true rfl)) rfl rfl ha_r8 dX12_dead_1 hf (fun σ7 hk => ?_)
  replace hf := hk
  clear hk
  refine r_aload_n (j := 0) rfl rfl dX12_dead_4 ?_
  obtain ⟨fs_x9, x9, ha_x9, hv_x9, hf⟩ := hf
  refine r_get (Cn := RX12) (Tt := TX12) (N := 42) (n := 14) rfl uw_X12 (Nat.le_of_ble_eq_true rfl) wd_6_200 ha_x9 hv_x9 dX12_dead_5 ?_
  refine r_ifneZ (b := x9) (tgt := 17) (by decide) dX12_dead_8 (fun hc => ?_) (fun hc => ?_)
  · replace hf := hf.1 hc
    refine r_aload_n (j := 0) rfl rfl dX12_dead_17 ?_
    try unfold C_X12_standNow at hf
    obtain ⟨⟨fs_r11, ha_r11⟩, hf⟩ := hf
    refine r_invVI (t := 12) (As := []) (dz := d) (mz := 0) (sz := 0) rfl wd_8_26 wd_8_28 wd_p_77 cf_X12_standNow (Nat.le_refl _) (Nat.zero_le _) (Nat.zero_le _) (cat_ok (Nat.le_of_ble_eq_true rfl)) rfl rfl ha_r11 dX12_dead_18 hf (fun r11 σ10 hk => ?_)
    replace hf := hk
    clear hk
    try unfold C_X12_takenOf at hf
    refine r_invSI (As := [aI r11]) (dz := d) (mz := 0) (sz := 0) rfl wd_8_34 wd_8_35 cf_X12_takenOf (Nat.le_refl _) (Nat.zero_le _) (Nat.zero_le _) (cat_ok (Nat.le_of_ble_eq_true rfl)) dX12_dead_21 hf (fun r13 σ12 hk => ?_)
    replace hf := hk
    clear hk
    refine r_istore_n (L' := [(1, aI r13), (0, aR (some v0))]) rfl rfl (Nat.le_of_ble_eq_true rfl) dX12_dead_24 ?_
    refine r_iconst (v := 1) (by decide) dX12_dead_25 ?_
    refine r_aload_n (j := 1) rfl rfl dX12_dead_26 ?_
    obtain ⟨fs_x14, x14, ha_x14, hv_x14, hf⟩ := hf
    refine r_get (Cn := RX12) (Tt := TX12) (N := 42) (n := 15) rfl uw_X12 (Nat.le_of_ble_eq_true rfl) wd_6_201 ha_x14 hv_x14 dX12_dead_27 ?_
    refine r_iconst (v := 5) (by decide) dX12_dead_30 ?_
    obtain ⟨N_x15, f_x15, ha_x15, hi_x15, hf⟩ := hf
    refine r_iald ha_x15 hi_x15 dX12_dead_31 ?_
    generalize f_x15 (5 : Int32).toNatClampNeg = x15 at hf ⊢
    refine r_ishl (x := 1) (y := x15) dX12_dead_32 ?_
    refine r_iconst (v := 1) (by decide) dX12_dead_33 ?_
    refine r_isub (x := (1 <<< (x15 &&& 31))) (y := 1) dX12_dead_34 ?_
    refine r_iload_n (j := 0) rfl rfl dX12_dead_35 ?_
    refine r_iconst (v := (-1)) (by decide) dX12_dead_36 ?_
    refine r_ixor (x := r13) (y := (-1)) dX12_dead_37 ?_
    refine r_iand (x := ((1 <<< (x15 &&& 31)) - 1)) (y := (r13 ^^^ (-1))) dX12_dead_38 ?_
    refine r_aload_n (j := 1) rfl rfl dX12_dead_39 ?_
    obtain ⟨fs_x16, x16, ha_x16, hv_x16, hf⟩ := hf
    refine r_get (Cn := RX12) (Tt := TX12) (N := 42) (n := 15) rfl uw_X12 (Nat.le_of_ble_eq_true rfl) wd_6_201 ha_x16 hv_x16 dX12_dead_40 ?_
    refine r_bipush (v := 16) (by decide) dX12_dead_43 ?_
    obtain ⟨N_x17, f_x17, ha_x17, hi_x17, hf⟩ := hf
    refine r_iald ha_x17 hi_x17 dX12_dead_45 ?_
    generalize f_x17 (16 : Int32).toNatClampNeg = x17 at hf ⊢
    refine r_iconst (v := (-1)) (by decide) dX12_dead_46 ?_
    refine r_ixor (x := x17) (y := (-1)) dX12_dead_47 ?_
    refine r_iand (x := (((1 <<< (x15 &&& 31)) - 1) &&& (r13 ^^^ (-1)))) (y := (x17 ^^^ (-1))) dX12_dead_48 ?_
    refine r_istore_n (L' := [(2, aI ((((1 <<< (x15 &&& 31)) - 1) &&& (r13 ^^^ (-1))) &&& (x17 ^^^ (-1)))), (1, aI r13), (0, aR (some v0))]) rfl rfl (Nat.le_of_ble_eq_true rfl) dX12_dead_49 ?_
    refine r_iconst (v := 0) (by decide) dX12_dead_50 ?_
    refine r_istore_n (L' := [(3, aI 0), (2, aI ((((1 <<< (x15 &&& 31)) - 1) &&& (r13 ^^^ (-1))) &&& (x17 ^^^ (-1)))), (1, aI r13), (0, aR (some v0))]) rfl rfl (Nat.le_of_ble_eq_true rfl) dX12_dead_51 ?_
    obtain ⟨n, hf⟩ := hf
    exact r_sub [3, 2, 1, 0] rfl (z_X12_dead_52 n _ _ _ _ _ hf)
  · replace hf := hf.2 hc
    refine r_aload_n (j := 0) rfl rfl dX12_dead_11 ?_
    refine r_iconst (v := 1) (by decide) dX12_dead_12 ?_
    try unfold C_X12_no at hf
    obtain ⟨⟨fs_r19, ha_r19⟩, hf⟩ := hf
    refine r_invVI (t := 12) (As := [aI 1]) (dz := d) (mz := 0) (sz := 0) rfl wd_7_92 wd_7_94 wd_p_50 cf_X12_no (Nat.le_refl _) (Nat.zero_le _) (Nat.zero_le _) (cat_ok (Nat.le_of_ble_eq_true rfl)) rfl rfl ha_r19 dX12_dead_13 hf (fun r19 σ18 hk => ?_)
    replace hf := hk
    clear hk
    exact r_ireturn rfl dX12_dead_16 rfl ⟨_, rfl, hf⟩
theorem m_X12_dead {l : Launch} {G : GG} {d : Nat} {v0 : Nat} {σ : Hp} {K : Int32 → Hp → Prop} (hr : rv σ v0 12) (hf : F_X12_dead l G d v0 σ K) : C_X12_dead l G (d + 1) v0 σ K := ⟨hr, Sp.of (by decide) (Nat.le_of_ble_eq_true rfl) (b_X12_dead_0 hf) rfl⟩
def F_X12_forget_2 (l : Launch) (G : GG) (d : Nat) (X2 : Nat → Int32 → Hp → Prop) (v0 : Nat) (v1 : Int32) (σ : Hp) (K : Hp → Prop) : Prop :=
  ((32768 : Int32) ≤ (v1 : Int32) →
    K σ) ∧
  (¬ (32768 : Int32) ≤ (v1 : Int32) →
    fN σ v0 12 31 fun x1 =>
    sI σ x1 v1 (-1) fun σ2 =>
    fN σ2 v0 12 32 fun x4 =>
    sI σ2 x4 v1 (-1) fun σ5 =>
    fN σ5 v0 12 33 fun x7 =>
    sI σ5 x7 v1 (-1) fun σ8 =>
    fN σ8 v0 12 34 fun x10 =>
    sI σ8 x10 v1 (-1) fun σ11 =>
    fN σ11 v0 12 35 fun x13 =>
    sI σ11 x13 v1 (-1) fun σ14 =>
    fN σ14 v0 12 37 fun x16 =>
    sJ σ14 x16 v1 (-1 : Int64) fun σ17 =>
    X2 v0 (v1 + 1) σ17)
set_option maxRecDepth 100000 in
set_option maxHeartbeats 4000000 in
theorem b_X12_forget_2 {l : Launch} {G : GG} {d : Nat} {X2 : Nat → Int32 → Hp → Prop} {v0 : Nat} {v1 : Int32} {σ : Hp} {K : Hp → Prop} (hX2 : ∀ v0 v1 σ, X2 v0 v1 σ → Wd l G (d + 1) "CoinsLaidModel" yX12_forget cX12_forget 2 none 2 [(0, aR (some v0)), (1, aI v1)] [] σ 0 0 (xM (QV K))) (hf : F_X12_forget_2 l G d X2 v0 v1 σ K) : Wd l G (d + 1) "CoinsLaidModel" yX12_forget cX12_forget 2 none 2 [(0, aR (some v0)), (1, aI v1)] [] σ 0 0 (xM (QV K)) := by
  unfold F_X12_forget_2 at hf
  refine r_iload_n (j := 1) rfl rfl dX12_forget_2 ?_
  refine r_ldc wd_6_185 dX12_forget_3 ?_
  refine r_icmpge (x := v1) (y := 32768) (tgt := 58) (by decide) dX12_forget_5 (fun hc => ?_) (fun hc => ?_)
  · replace hf := hf.1 hc
    exact r_return rfl dX12_forget_58 rfl ⟨rfl, hf⟩
  · replace hf := hf.2 hc
    refine r_aload_n (j := 0) rfl rfl dX12_forget_8 ?_
    obtain ⟨fs_x1, x1, ha_x1, hv_x1, hf⟩ := hf
    refine r_get (Cn := RX12) (Tt := TX12) (N := 42) (n := 31) rfl uw_X12 (Nat.le_of_ble_eq_true rfl) wd_6_217 ha_x1 hv_x1 dX12_forget_9 ?_
    refine r_iload_n (j := 1) rfl rfl dX12_forget_12 ?_
    refine r_iconst (v := (-1)) (by decide) dX12_forget_13 ?_
    obtain ⟨N_x3, f_x3, ha_x3, hi_x3, hf⟩ := hf
    generalize hσ2 : hset σ x1 (iA N_x3 (up_ f_x3 (v1 : Int32).toNatClampNeg (-1))) = σ2 at hf
    refine r_iast (f := f_x3) (x := (-1)) ha_x3 hi_x3 dX12_forget_14 ?_
    refine Eq.mpr (congrArg (fun z => Wd _ _ _ _ _ _ _ _ _ _ _ z _ _ _) hσ2) ?_
    refine r_aload_n (j := 0) rfl rfl dX12_forget_15 ?_
    obtain ⟨fs_x4, x4, ha_x4, hv_x4, hf⟩ := hf
    refine r_get (Cn := RX12) (Tt := TX12) (N := 42) (n := 32) rfl uw_X12 (Nat.le_of_ble_eq_true rfl) wd_6_218 ha_x4 hv_x4 dX12_forget_16 ?_
    refine r_iload_n (j := 1) rfl rfl dX12_forget_19 ?_
    refine r_iconst (v := (-1)) (by decide) dX12_forget_20 ?_
    obtain ⟨N_x6, f_x6, ha_x6, hi_x6, hf⟩ := hf
    generalize hσ5 : hset σ2 x4 (iA N_x6 (up_ f_x6 (v1 : Int32).toNatClampNeg (-1))) = σ5 at hf
    refine r_iast (f := f_x6) (x := (-1)) ha_x6 hi_x6 dX12_forget_21 ?_
    refine Eq.mpr (congrArg (fun z => Wd _ _ _ _ _ _ _ _ _ _ _ z _ _ _) hσ5) ?_
    refine r_aload_n (j := 0) rfl rfl dX12_forget_22 ?_
    obtain ⟨fs_x7, x7, ha_x7, hv_x7, hf⟩ := hf
    refine r_get (Cn := RX12) (Tt := TX12) (N := 42) (n := 33) rfl uw_X12 (Nat.le_of_ble_eq_true rfl) wd_6_219 ha_x7 hv_x7 dX12_forget_23 ?_
    refine r_iload_n (j := 1) rfl rfl dX12_forget_26 ?_
    refine r_iconst (v := (-1)) (by decide) dX12_forget_27 ?_
    obtain ⟨N_x9, f_x9, ha_x9, hi_x9, hf⟩ := hf
    generalize hσ8 : hset σ5 x7 (iA N_x9 (up_ f_x9 (v1 : Int32).toNatClampNeg (-1))) = σ8 at hf
    refine r_iast (f := f_x9) (x := (-1)) ha_x9 hi_x9 dX12_forget_28 ?_
    refine Eq.mpr (congrArg (fun z => Wd _ _ _ _ _ _ _ _ _ _ _ z _ _ _) hσ8) ?_
    refine r_aload_n (j := 0) rfl rfl dX12_forget_29 ?_
    obtain ⟨fs_x10, x10, ha_x10, hv_x10, hf⟩ := hf
    refine r_get (Cn := RX12) (Tt := TX12) (N := 42) (n := 34) rfl uw_X12 (Nat.le_of_ble_eq_true rfl) wd_6_220 ha_x10 hv_x10 dX12_forget_30 ?_
    refine r_iload_n (j := 1) rfl rfl dX12_forget_33 ?_
    refine r_iconst (v := (-1)) (by decide) dX12_forget_34 ?_
    obtain ⟨N_x12, f_x12, ha_x12, hi_x12, hf⟩ := hf
    generalize hσ11 : hset σ8 x10 (iA N_x12 (up_ f_x12 (v1 : Int32).toNatClampNeg (-1))) = σ11 at hf
    refine r_iast (f := f_x12) (x := (-1)) ha_x12 hi_x12 dX12_forget_35 ?_
    refine Eq.mpr (congrArg (fun z => Wd _ _ _ _ _ _ _ _ _ _ _ z _ _ _) hσ11) ?_
    refine r_aload_n (j := 0) rfl rfl dX12_forget_36 ?_
    obtain ⟨fs_x13, x13, ha_x13, hv_x13, hf⟩ := hf
    refine r_get (Cn := RX12) (Tt := TX12) (N := 42) (n := 35) rfl uw_X12 (Nat.le_of_ble_eq_true rfl) wd_6_221 ha_x13 hv_x13 dX12_forget_37 ?_
    refine r_iload_n (j := 1) rfl rfl dX12_forget_40 ?_
    refine r_iconst (v := (-1)) (by decide) dX12_forget_41 ?_
    obtain ⟨N_x15, f_x15, ha_x15, hi_x15, hf⟩ := hf
    generalize hσ14 : hset σ11 x13 (iA N_x15 (up_ f_x15 (v1 : Int32).toNatClampNeg (-1))) = σ14 at hf
    refine r_iast (f := f_x15) (x := (-1)) ha_x15 hi_x15 dX12_forget_42 ?_
    refine Eq.mpr (congrArg (fun z => Wd _ _ _ _ _ _ _ _ _ _ _ z _ _ _) hσ14) ?_
    refine r_aload_n (j := 0) rfl rfl dX12_forget_43 ?_
    obtain ⟨fs_x16, x16, ha_x16, hv_x16, hf⟩ := hf
    refine r_get (Cn := RX12) (Tt := TX12) (N := 42) (n := 37) rfl uw_X12 (Nat.le_of_ble_eq_true rfl) wd_6_223 ha_x16 hv_x16 dX12_forget_44 ?_
    refine r_iload_n (j := 1) rfl rfl dX12_forget_47 ?_
    refine r_ldc2 wd_7_237 dX12_forget_48 ?_
    obtain ⟨N_x18, f_x18, ha_x18, hi_x18, hf⟩ := hf
    generalize hσ17 : hset σ14 x16 (jA N_x18 (up_ f_x18 (v1 : Int32).toNatClampNeg (-1 : Int64))) = σ17 at hf
    refine r_last (f := f_x18) (x := (-1 : Int64)) ha_x18 hi_x18 dX12_forget_51 ?_
    refine Eq.mpr (congrArg (fun z => Wd _ _ _ _ _ _ _ _ _ _ _ z _ _ _) hσ17) ?_
    refine r_iinc (j := 1) (w := (v1 + 1)) (L' := [(1, aI (v1 + 1)), (0, aR (some v0))]) rfl (by rfl) rfl (Nat.le_of_ble_eq_true rfl) dX12_forget_52 ?_
    refine r_goto (tgt := 2) (by decide) dX12_forget_55 ?_
    exact r_sub [1, 0] rfl (hX2 _ _ _ hf)
def Z_X12_forget_2 (l : Launch) (G : GG) (d : Nat) (K : Hp → Prop) : Nat → Nat → Int32 → Hp → Prop
  | 0 => fun _ _ _ => False
  | n + 1 => fun v0 v1 σ => F_X12_forget_2 l G d (Z_X12_forget_2 l G d K n) v0 v1 σ K
theorem z_X12_forget_2 {l : Launch} {G : GG} {d : Nat} {K : Hp → Prop} : ∀ (n : Nat) v0 v1 σ, Z_X12_forget_2 l G d K n v0 v1 σ → Wd l G (d + 1) "CoinsLaidModel" yX12_forget cX12_forget 2 none 2 [(0, aR (some v0)), (1, aI v1)] [] σ 0 0 (xM (QV K)) := by
  intro n
  induction n with
  | zero => intro v0 v1 σ hf; exact hf.elim
  | succ n ih => intro v0 v1 σ hf; exact b_X12_forget_2 ih hf
def F_X12_forget (l : Launch) (G : GG) (d : Nat) (v0 : Nat) (σ : Hp) (K : Hp → Prop) : Prop :=
  ∃ n, Z_X12_forget_2 l G d K n v0 0 σ
set_option maxRecDepth 100000 in
set_option maxHeartbeats 4000000 in
theorem b_X12_forget_0 {l : Launch} {G : GG} {d : Nat} {v0 : Nat} {σ : Hp} {K : Hp → Prop} (hf : F_X12_forget l G d v0 σ K) : Wd l G (d + 1) "CoinsLaidModel" yX12_forget cX12_forget 2 none 0 [(0, aR (some v0))] [] σ 0 0 (xM (QV K)) := by
  unfold F_X12_forget at hf
  refine r_iconst (v := 0) (by decide) dX12_forget_0 ?_
  refine r_istore_n (L' := [(1, aI 0), (0, aR (some v0))]) rfl rfl (Nat.le_of_ble_eq_true rfl) dX12_forget_1 ?_
  obtain ⟨n, hf⟩ := hf
  exact r_sub [1, 0] rfl (z_X12_forget_2 n _ _ _ hf)
theorem m_X12_forget {l : Launch} {G : GG} {d : Nat} {v0 : Nat} {σ : Hp} {K : Hp → Prop} (hr : rv σ v0 12) (hf : F_X12_forget l G d v0 σ K) : C_X12_forget l G (d + 1) v0 σ K := ⟨hr, Sp.of (by decide) (Nat.le_of_ble_eq_true rfl) (b_X12_forget_0 hf) rfl⟩
def F_X12_isOver_16 (l : Launch) (G : GG) (d : Nat) (s0 : Bool) (σ : Hp) (K : Bool → Hp → Prop) : Prop :=
  K s0 σ
set_option maxRecDepth 100000 in
set_option maxHeartbeats 4000000 in
theorem b_X12_isOver_16 {l : Launch} {G : GG} {d : Nat} {s0 : Bool} {σ : Hp} {K : Bool → Hp → Prop} (hf : F_X12_isOver_16 l G d s0 σ K) : Wd l G (d + 1) "CoinsLaidModel" yX12_isOver cX12_isOver 2 (some FieldType.boolean) 16 [] [aI (bi s0)] σ 0 0 (xM (QZ K)) := by
  unfold F_X12_isOver_16 at hf
  exact r_zreturn (b := s0) rfl dX12_isOver_16 rfl ⟨_, rfl, hf⟩
def F_X12_isOver (l : Launch) (G : GG) (d : Nat) (v0 : Nat) (v1 : Int32) (σ : Hp) (K : Bool → Hp → Prop) : Prop :=
  C_X12_mayAt l G d v0 v1 0 σ fun r2 σ1 =>
  (¬ (r2 : Int32) = ((-2) : Int32) →
    F_X12_isOver_16 l G d false σ1 K) ∧
  ((r2 : Int32) = ((-2) : Int32) →
    F_X12_isOver_16 l G d true σ1 K)
set_option maxRecDepth 100000 in
set_option maxHeartbeats 4000000 in
theorem b_X12_isOver_0 {l : Launch} {G : GG} {d : Nat} {v0 : Nat} {v1 : Int32} {σ : Hp} {K : Bool → Hp → Prop} (hf : F_X12_isOver l G d v0 v1 σ K) : Wd l G (d + 1) "CoinsLaidModel" yX12_isOver cX12_isOver 2 (some FieldType.boolean) 0 [(0, aR (some v0)), (1, aI v1)] [] σ 0 0 (xM (QZ K)) := by
  unfold F_X12_isOver at hf
  refine r_aload_n (j := 0) rfl rfl dX12_isOver_0 ?_
  refine r_iload_n (j := 1) rfl rfl dX12_isOver_1 ?_
  refine r_iconst (v := 0) (by decide) dX12_isOver_2 ?_
  try unfold C_X12_mayAt at hf
  obtain ⟨⟨fs_r2, ha_r2⟩, hf⟩ := hf
  refine r_invVI (t := 12) (As := [aI v1, aI 0]) (dz := d) (mz := 0) (sz := 0) rfl wd_8_52 wd_8_54 wd_p_80 cf_X12_mayAt (Nat.le_refl _) (Nat.zero_le _) (Nat.zero_le _) (cat_ok (Nat.le_of_ble_eq_true rfl)) rfl rfl ha_r2 dX12_isOver_3 hf (fun r2 σ1 hk => ?_)
  replace hf := hk
  clear hk
  refine r_bipush (v := (-2)) (by decide) dX12_isOver_6 ?_
  refine r_icmpne (x := r2) (y := (-2)) (tgt := 15) (by decide) dX12_isOver_8 (fun hc => ?_) (fun hc => ?_)
  · replace hf := hf.1 hc
    refine r_iconst (v := 0) (by decide) dX12_isOver_15 ?_
    exact r_sub [] rfl (b_X12_isOver_16 hf)
  · replace hf := hf.2 hc
    refine r_iconst (v := 1) (by decide) dX12_isOver_11 ?_
    refine r_goto (tgt := 16) (by decide) dX12_isOver_12 ?_
    exact r_sub [] rfl (b_X12_isOver_16 hf)
theorem m_X12_isOver {l : Launch} {G : GG} {d : Nat} {v0 : Nat} {v1 : Int32} {σ : Hp} {K : Bool → Hp → Prop} (hr : rv σ v0 12) (hf : F_X12_isOver l G d v0 v1 σ K) : C_X12_isOver l G (d + 1) v0 v1 σ K := ⟨hr, Sp.of (by decide) (Nat.le_of_ble_eq_true rfl) (b_X12_isOver_0 hf) rfl⟩
def F_X12_hasIt_74 (l : Launch) (G : GG) (d : Nat) (X35 : Nat → Int32 → Bool → Int32 → Hp → Prop) (v0 : Nat) (v1 : Int32) (v3 : Int32) (s0 : Bool) (σ : Hp) (K : Bool → Hp → Prop) : Prop :=
  X35 v0 v1 s0 (v3 + 1) σ
set_option maxRecDepth 100000 in
set_option maxHeartbeats 4000000 in
theorem b_X12_hasIt_74 {l : Launch} {G : GG} {d : Nat} {X35 : Nat → Int32 → Bool → Int32 → Hp → Prop} {v0 : Nat} {v1 : Int32} {v3 : Int32} {s0 : Bool} {σ : Hp} {K : Bool → Hp → Prop} (hX35 : ∀ v0 v1 v2 v3 σ, X35 v0 v1 v2 v3 σ → Wd l G (d + 1) "CoinsLaidModel" yX12_hasIt cX12_hasIt 4 (some FieldType.boolean) 35 [(0, aR (some v0)), (1, aI v1), (2, aI (bi v2)), (3, aI v3)] [] σ 0 0 (xM (QZ K))) (hf : F_X12_hasIt_74 l G d X35 v0 v1 v3 s0 σ K) : Wd l G (d + 1) "CoinsLaidModel" yX12_hasIt cX12_hasIt 4 (some FieldType.boolean) 74 [(0, aR (some v0)), (1, aI v1), (3, aI v3)] [aI (bi s0)] σ 0 0 (xM (QZ K)) := by
  unfold F_X12_hasIt_74 at hf
  refine r_istore_n (L' := [(2, aI (bi s0)), (0, aR (some v0)), (1, aI v1), (3, aI v3)]) rfl rfl (Nat.le_of_ble_eq_true rfl) dX12_hasIt_74 ?_
  refine r_iinc (j := 3) (w := (v3 + 1)) (L' := [(3, aI (v3 + 1)), (2, aI (bi s0)), (0, aR (some v0)), (1, aI v1)]) rfl (by rfl) rfl (Nat.le_of_ble_eq_true rfl) dX12_hasIt_75 ?_
  refine r_goto (tgt := 35) (by decide) dX12_hasIt_78 ?_
  exact r_sub [2, 3, 1, 0] rfl (hX35 _ _ _ _ _ hf)
def F_X12_hasIt_73 (l : Launch) (G : GG) (d : Nat) (X35 : Nat → Int32 → Bool → Int32 → Hp → Prop) (v0 : Nat) (v1 : Int32) (v3 : Int32) (σ : Hp) (K : Bool → Hp → Prop) : Prop :=
  F_X12_hasIt_74 l G d X35 v0 v1 v3 false σ K
set_option maxRecDepth 100000 in
set_option maxHeartbeats 4000000 in
theorem b_X12_hasIt_73 {l : Launch} {G : GG} {d : Nat} {X35 : Nat → Int32 → Bool → Int32 → Hp → Prop} {v0 : Nat} {v1 : Int32} {v3 : Int32} {σ : Hp} {K : Bool → Hp → Prop} (hX35 : ∀ v0 v1 v2 v3 σ, X35 v0 v1 v2 v3 σ → Wd l G (d + 1) "CoinsLaidModel" yX12_hasIt cX12_hasIt 4 (some FieldType.boolean) 35 [(0, aR (some v0)), (1, aI v1), (2, aI (bi v2)), (3, aI v3)] [] σ 0 0 (xM (QZ K))) (hf : F_X12_hasIt_73 l G d X35 v0 v1 v3 σ K) : Wd l G (d + 1) "CoinsLaidModel" yX12_hasIt cX12_hasIt 4 (some FieldType.boolean) 73 [(0, aR (some v0)), (1, aI v1), (3, aI v3)] [] σ 0 0 (xM (QZ K)) := by
  unfold F_X12_hasIt_73 at hf
  refine r_iconst (v := 0) (by decide) dX12_hasIt_73 ?_
  exact r_sub [0, 1, 2] rfl (b_X12_hasIt_74 hX35 hf)
def F_X12_hasIt_111 (l : Launch) (G : GG) (d : Nat) (s0 : Bool) (σ : Hp) (K : Bool → Hp → Prop) : Prop :=
  K s0 σ
set_option maxRecDepth 100000 in
set_option maxHeartbeats 4000000 in
theorem b_X12_hasIt_111 {l : Launch} {G : GG} {d : Nat} {s0 : Bool} {σ : Hp} {K : Bool → Hp → Prop} (hf : F_X12_hasIt_111 l G d s0 σ K) : Wd l G (d + 1) "CoinsLaidModel" yX12_hasIt cX12_hasIt 4 (some FieldType.boolean) 111 [] [aI (bi s0)] σ 0 0 (xM (QZ K)) := by
  unfold F_X12_hasIt_111 at hf
  exact r_zreturn (b := s0) rfl dX12_hasIt_111 rfl ⟨_, rfl, hf⟩
def F_X12_hasIt_96 (l : Launch) (G : GG) (d : Nat) (v0 : Nat) (v1 : Int32) (σ : Hp) (K : Bool → Hp → Prop) : Prop :=
  fN σ v0 12 31 fun x1 =>
  gI σ x1 v1 fun x2 =>
  (¬ (x2 : Int32) = (1 : Int32) →
    F_X12_hasIt_111 l G d false σ K) ∧
  ((x2 : Int32) = (1 : Int32) →
    F_X12_hasIt_111 l G d true σ K)
set_option maxRecDepth 100000 in
set_option maxHeartbeats 4000000 in
theorem b_X12_hasIt_96 {l : Launch} {G : GG} {d : Nat} {v0 : Nat} {v1 : Int32} {σ : Hp} {K : Bool → Hp → Prop} (hf : F_X12_hasIt_96 l G d v0 v1 σ K) : Wd l G (d + 1) "CoinsLaidModel" yX12_hasIt cX12_hasIt 4 (some FieldType.boolean) 96 [(0, aR (some v0)), (1, aI v1)] [] σ 0 0 (xM (QZ K)) := by
  unfold F_X12_hasIt_96 at hf
  refine r_aload_n (j := 0) rfl rfl dX12_hasIt_96 ?_
  obtain ⟨fs_x1, x1, ha_x1, hv_x1, hf⟩ := hf
  refine r_get (Cn := RX12) (Tt := TX12) (N := 42) (n := 31) rfl uw_X12 (Nat.le_of_ble_eq_true rfl) wd_6_217 ha_x1 hv_x1 dX12_hasIt_97 ?_
  refine r_iload_n (j := 1) rfl rfl dX12_hasIt_100 ?_
  obtain ⟨N_x2, f_x2, ha_x2, hi_x2, hf⟩ := hf
  refine r_iald ha_x2 hi_x2 dX12_hasIt_101 ?_
  generalize f_x2 (v1 : Int32).toNatClampNeg = x2 at hf ⊢
  refine r_iconst (v := 1) (by decide) dX12_hasIt_102 ?_
  refine r_icmpne (x := x2) (y := 1) (tgt := 110) (by decide) dX12_hasIt_103 (fun hc => ?_) (fun hc => ?_)
  · replace hf := hf.1 hc
    refine r_iconst (v := 0) (by decide) dX12_hasIt_110 ?_
    exact r_sub [] rfl (b_X12_hasIt_111 hf)
  · replace hf := hf.2 hc
    refine r_iconst (v := 1) (by decide) dX12_hasIt_106 ?_
    refine r_goto (tgt := 111) (by decide) dX12_hasIt_107 ?_
    exact r_sub [] rfl (b_X12_hasIt_111 hf)
def F_X12_hasIt_95 (l : Launch) (G : GG) (d : Nat) (v0 : Nat) (v1 : Int32) (s0 : Nat) (s1 : Int32) (s2 : Bool) (σ : Hp) (K : Bool → Hp → Prop) : Prop :=
  sI σ s0 s1 (bi s2) fun σ3 =>
  F_X12_hasIt_96 l G d v0 v1 σ3 K
set_option maxRecDepth 100000 in
set_option maxHeartbeats 4000000 in
theorem b_X12_hasIt_95 {l : Launch} {G : GG} {d : Nat} {v0 : Nat} {v1 : Int32} {s0 : Nat} {s1 : Int32} {s2 : Bool} {σ : Hp} {K : Bool → Hp → Prop} (hf : F_X12_hasIt_95 l G d v0 v1 s0 s1 s2 σ K) : Wd l G (d + 1) "CoinsLaidModel" yX12_hasIt cX12_hasIt 4 (some FieldType.boolean) 95 [(0, aR (some v0)), (1, aI v1)] [aI (bi s2), aI s1, aR (some s0)] σ 0 0 (xM (QZ K)) := by
  unfold F_X12_hasIt_95 at hf
  obtain ⟨N_x4, f_x4, ha_x4, hi_x4, hf⟩ := hf
  generalize hσ3 : hset σ s0 (iA N_x4 (up_ f_x4 (s1 : Int32).toNatClampNeg (bi s2))) = σ3 at hf
  refine r_iast (f := f_x4) (x := (bi s2)) ha_x4 hi_x4 dX12_hasIt_95 ?_
  refine Eq.mpr (congrArg (fun z => Wd _ _ _ _ _ _ _ _ _ _ _ z _ _ _) hσ3) ?_
  exact r_sub [0, 1] rfl (b_X12_hasIt_96 hf)
def F_X12_hasIt_81 (l : Launch) (G : GG) (d : Nat) (v0 : Nat) (v1 : Int32) (v2 : Bool) (σ : Hp) (K : Bool → Hp → Prop) : Prop :=
  fN σ v0 12 31 fun x5 =>
  (v2 = false →
    F_X12_hasIt_95 l G d v0 v1 x5 v1 false σ K) ∧
  (v2 = true →
    F_X12_hasIt_95 l G d v0 v1 x5 v1 true σ K)
set_option maxRecDepth 100000 in
set_option maxHeartbeats 4000000 in
theorem b_X12_hasIt_81 {l : Launch} {G : GG} {d : Nat} {v0 : Nat} {v1 : Int32} {v2 : Bool} {σ : Hp} {K : Bool → Hp → Prop} (hf : F_X12_hasIt_81 l G d v0 v1 v2 σ K) : Wd l G (d + 1) "CoinsLaidModel" yX12_hasIt cX12_hasIt 4 (some FieldType.boolean) 81 [(0, aR (some v0)), (1, aI v1), (2, aI (bi v2))] [] σ 0 0 (xM (QZ K)) := by
  unfold F_X12_hasIt_81 at hf
  refine r_aload_n (j := 0) rfl rfl dX12_hasIt_81 ?_
  obtain ⟨fs_x5, x5, ha_x5, hv_x5, hf⟩ := hf
  refine r_get (Cn := RX12) (Tt := TX12) (N := 42) (n := 31) rfl uw_X12 (Nat.le_of_ble_eq_true rfl) wd_6_217 ha_x5 hv_x5 dX12_hasIt_82 ?_
  refine r_iload_n (j := 1) rfl rfl dX12_hasIt_85 ?_
  refine r_iload_n (j := 2) rfl rfl dX12_hasIt_86 ?_
  refine r_ifeqZ (b := v2) (tgt := 94) (by decide) dX12_hasIt_87 (fun hc => ?_) (fun hc => ?_)
  · replace hf := hf.1 hc
    refine r_iconst (v := 0) (by decide) dX12_hasIt_94 ?_
    exact r_sub [0, 1] rfl (b_X12_hasIt_95 hf)
  · replace hf := hf.2 hc
    refine r_iconst (v := 1) (by decide) dX12_hasIt_90 ?_
    refine r_goto (tgt := 95) (by decide) dX12_hasIt_91 ?_
    exact r_sub [0, 1] rfl (b_X12_hasIt_95 hf)
def F_X12_hasIt_35 (l : Launch) (G : GG) (d : Nat) (X35 : Nat → Int32 → Bool → Int32 → Hp → Prop) (v0 : Nat) (v1 : Int32) (v2 : Bool) (v3 : Int32) (σ : Hp) (K : Bool → Hp → Prop) : Prop :=
  fI σ v0 12 30 fun x6 =>
  ((x6 : Int32) ≤ (v3 : Int32) →
    F_X12_hasIt_81 l G d v0 v1 v2 σ K) ∧
  (¬ (x6 : Int32) ≤ (v3 : Int32) →
    (v2 = true →
      F_X12_hasIt_81 l G d v0 v1 v2 σ K) ∧
    (v2 = false →
      C_X12_mayBe l G d v0 v1 v3 σ fun r8 σ7 =>
      (r8 = false →
        F_X12_hasIt_73 l G d X35 v0 v1 v3 σ7 K) ∧
      (r8 = true →
        C_X12_behind l G d v0 v1 v3 σ7 fun r10 σ9 =>
        C_X12_hasIt l G d v0 r10 σ9 fun r12 σ11 =>
        (r12 = true →
          F_X12_hasIt_73 l G d X35 v0 v1 v3 σ11 K) ∧
        (r12 = false →
          F_X12_hasIt_74 l G d X35 v0 v1 v3 true σ11 K))))
set_option maxRecDepth 100000 in
set_option maxHeartbeats 4000000 in
theorem b_X12_hasIt_35 {l : Launch} {G : GG} {d : Nat} {X35 : Nat → Int32 → Bool → Int32 → Hp → Prop} {v0 : Nat} {v1 : Int32} {v2 : Bool} {v3 : Int32} {σ : Hp} {K : Bool → Hp → Prop} (hX35 : ∀ v0 v1 v2 v3 σ, X35 v0 v1 v2 v3 σ → Wd l G (d + 1) "CoinsLaidModel" yX12_hasIt cX12_hasIt 4 (some FieldType.boolean) 35 [(0, aR (some v0)), (1, aI v1), (2, aI (bi v2)), (3, aI v3)] [] σ 0 0 (xM (QZ K))) (hf : F_X12_hasIt_35 l G d X35 v0 v1 v2 v3 σ K) : Wd l G (d + 1) "CoinsLaidModel" yX12_hasIt cX12_hasIt 4 (some FieldType.boolean) 35 [(0, aR (some v0)), (1, aI v1), (2, aI (bi v2)), (3, aI v3)] [] σ 0 0 (xM (QZ K)) := by
  unfold F_X12_hasIt_35 at hf
  refine r_iload_n (j := 3) rfl rfl dX12_hasIt_35 ?_
  refine r_aload_n (j := 0) rfl rfl dX12_hasIt_36 ?_
  obtain ⟨fs_x6, x6, ha_x6, hv_x6, hf⟩ := hf
  refine r_get (Cn := RX12) (Tt := TX12) (N := 42) (n := 30) rfl uw_X12 (Nat.le_of_ble_eq_true rfl) wd_6_216 ha_x6 hv_x6 dX12_hasIt_37 ?_
  refine r_icmpge (x := v3) (y := x6) (tgt := 81) (by decide) dX12_hasIt_40 (fun hc => ?_) (fun hc => ?_)
  · replace hf := hf.1 hc
    exact r_sub [0, 1, 2] rfl (b_X12_hasIt_81 hf)
  · replace hf := hf.2 hc
    refine r_iload_n (j := 2) rfl rfl dX12_hasIt_43 ?_
    refine r_ifneZ (b := v2) (tgt := 81) (by decide) dX12_hasIt_44 (fun hc => ?_) (fun hc => ?_)
    · replace hf := hf.1 hc
      exact r_sub [0, 1, 2] rfl (b_X12_hasIt_81 hf)
    · replace hf := hf.2 hc
      refine r_aload_n (j := 0) rfl rfl dX12_hasIt_47 ?_
      refine r_iload_n (j := 1) rfl rfl dX12_hasIt_48 ?_
      refine r_iload_n (j := 3) rfl rfl dX12_hasIt_49 ?_
      try unfold C_X12_mayBe at hf
      obtain ⟨⟨fs_r8, ha_r8⟩, hf⟩ := hf
      refine r_invVZ (t := 12) (As := [aI v1, aI v3]) (dz := d) (mz := 0) (sz := 0) rfl wd_8_30 wd_8_32 wd_p_78 cf_X12_mayBe (Nat.le_refl _) (Nat.zero_le _) (Nat.zero_le _) (cat_ok (Nat.le_of_ble_eq_true rfl)) rfl rfl ha_r8 dX12_hasIt_50 hf (fun r8 σ7 hk => ?_)
      replace hf := hk
      clear hk
      refine r_ifeqZ (b := r8) (tgt := 73) (by decide) dX12_hasIt_53 (fun hc => ?_) (fun hc => ?_)
      · replace hf := hf.1 hc
        exact r_sub [0, 1, 3] rfl (b_X12_hasIt_73 hX35 hf)
      · replace hf := hf.2 hc
        refine r_aload_n (j := 0) rfl rfl dX12_hasIt_56 ?_
        refine r_aload_n (j := 0) rfl rfl dX12_hasIt_57 ?_
        refine r_iload_n (j := 1) rfl rfl dX12_hasIt_58 ?_
        refine r_iload_n (j := 3) rfl rfl dX12_hasIt_59 ?_
        try unfold C_X12_behind at hf
        obtain ⟨⟨fs_r10, ha_r10⟩, hf⟩ := hf
        refine r_invVI (t := 12) (As := [aI v1, aI v3]) (dz := d) (mz := 0) (sz := 0) rfl wd_8_100 wd_8_102 wd_p_85 cf_X12_behind (Nat.le_refl _) (Nat.zero_le _) (Nat.zero_le _) (cat_ok (Nat.le_of_ble_eq_true rfl)) rfl rfl ha_r10 dX12_hasIt_60 hf (fun r10 σ9 hk => ?_)
        replace hf := hk
        clear hk
        try unfold C_X12_hasIt at hf
        obtain ⟨⟨fs_r12, ha_r12⟩, hf⟩ := hf
        refine r_invVZ (t := 12) (As := [aI r10]) (dz := d) (mz := 0) (sz := 0) rfl wd_8_96 wd_8_98 wd_p_84 cf_X12_hasIt (Nat.le_refl _) (Nat.zero_le _) (Nat.zero_le _) (cat_ok (Nat.le_of_ble_eq_true rfl)) rfl rfl ha_r12 dX12_hasIt_63 hf (fun r12 σ11 hk => ?_)
        replace hf := hk
        clear hk
        refine r_ifneZ (b := r12) (tgt := 73) (by decide) dX12_hasIt_66 (fun hc => ?_) (fun hc => ?_)
        · replace hf := hf.1 hc
          exact r_sub [0, 1, 3] rfl (b_X12_hasIt_73 hX35 hf)
        · replace hf := hf.2 hc
          refine r_iconst (v := 1) (by decide) dX12_hasIt_69 ?_
          refine r_goto (tgt := 74) (by decide) dX12_hasIt_70 ?_
          exact r_sub [0, 1, 3] rfl (b_X12_hasIt_74 hX35 hf)
def Z_X12_hasIt_35 (l : Launch) (G : GG) (d : Nat) (K : Bool → Hp → Prop) : Nat → Nat → Int32 → Bool → Int32 → Hp → Prop
  | 0 => fun _ _ _ _ _ => False
  | n + 1 => fun v0 v1 v2 v3 σ => F_X12_hasIt_35 l G d (Z_X12_hasIt_35 l G d K n) v0 v1 v2 v3 σ K
theorem z_X12_hasIt_35 {l : Launch} {G : GG} {d : Nat} {K : Bool → Hp → Prop} : ∀ (n : Nat) v0 v1 v2 v3 σ, Z_X12_hasIt_35 l G d K n v0 v1 v2 v3 σ → Wd l G (d + 1) "CoinsLaidModel" yX12_hasIt cX12_hasIt 4 (some FieldType.boolean) 35 [(0, aR (some v0)), (1, aI v1), (2, aI (bi v2)), (3, aI v3)] [] σ 0 0 (xM (QZ K)) := by
  intro n
  induction n with
  | zero => intro v0 v1 v2 v3 σ hf; exact hf.elim
  | succ n ih => intro v0 v1 v2 v3 σ hf; exact b_X12_hasIt_35 ih hf
def F_X12_hasIt_32 (l : Launch) (G : GG) (d : Nat) (v0 : Nat) (v1 : Int32) (s0 : Bool) (σ : Hp) (K : Bool → Hp → Prop) : Prop :=
  ∃ n, Z_X12_hasIt_35 l G d K n v0 v1 s0 0 σ
set_option maxRecDepth 100000 in
set_option maxHeartbeats 4000000 in
theorem b_X12_hasIt_32 {l : Launch} {G : GG} {d : Nat} {v0 : Nat} {v1 : Int32} {s0 : Bool} {σ : Hp} {K : Bool → Hp → Prop} (hf : F_X12_hasIt_32 l G d v0 v1 s0 σ K) : Wd l G (d + 1) "CoinsLaidModel" yX12_hasIt cX12_hasIt 4 (some FieldType.boolean) 32 [(0, aR (some v0)), (1, aI v1)] [aI (bi s0)] σ 0 0 (xM (QZ K)) := by
  unfold F_X12_hasIt_32 at hf
  refine r_istore_n (L' := [(2, aI (bi s0)), (0, aR (some v0)), (1, aI v1)]) rfl rfl (Nat.le_of_ble_eq_true rfl) dX12_hasIt_32 ?_
  refine r_iconst (v := 0) (by decide) dX12_hasIt_33 ?_
  refine r_istore_n (L' := [(3, aI 0), (2, aI (bi s0)), (0, aR (some v0)), (1, aI v1)]) rfl rfl (Nat.le_of_ble_eq_true rfl) dX12_hasIt_34 ?_
  obtain ⟨n, hf⟩ := hf
  exact r_sub [2, 3, 1, 0] rfl (z_X12_hasIt_35 n _ _ _ _ _ hf)
def F_X12_hasIt_31 (l : Launch) (G : GG) (d : Nat) (v0 : Nat) (v1 : Int32) (σ : Hp) (K : Bool → Hp → Prop) : Prop :=
  F_X12_hasIt_32 l G d v0 v1 false σ K
set_option maxRecDepth 100000 in
set_option maxHeartbeats 4000000 in
theorem b_X12_hasIt_31 {l : Launch} {G : GG} {d : Nat} {v0 : Nat} {v1 : Int32} {σ : Hp} {K : Bool → Hp → Prop} (hf : F_X12_hasIt_31 l G d v0 v1 σ K) : Wd l G (d + 1) "CoinsLaidModel" yX12_hasIt cX12_hasIt 4 (some FieldType.boolean) 31 [(0, aR (some v0)), (1, aI v1)] [] σ 0 0 (xM (QZ K)) := by
  unfold F_X12_hasIt_31 at hf
  refine r_iconst (v := 0) (by decide) dX12_hasIt_31 ?_
  exact r_sub [0, 1] rfl (b_X12_hasIt_32 hf)
def F_X12_hasIt (l : Launch) (G : GG) (d : Nat) (v0 : Nat) (v1 : Int32) (σ : Hp) (K : Bool → Hp → Prop) : Prop :=
  fN σ v0 12 31 fun x13 =>
  gI σ x13 v1 fun x14 =>
  (0 ≤ (x14 : Int32) →
    F_X12_hasIt_96 l G d v0 v1 σ K) ∧
  (¬ 0 ≤ (x14 : Int32) →
    C_X12_isOver l G d v0 v1 σ fun r16 σ15 =>
    (r16 = false →
      F_X12_hasIt_31 l G d v0 v1 σ15 K) ∧
    (r16 = true →
      fN σ15 v0 12 15 fun x17 =>
      gI σ15 x17 1 fun x18 =>
      (¬ (x18 : Int32) = (1 : Int32) →
        F_X12_hasIt_31 l G d v0 v1 σ15 K) ∧
      ((x18 : Int32) = (1 : Int32) →
        F_X12_hasIt_32 l G d v0 v1 true σ15 K)))
set_option maxRecDepth 100000 in
set_option maxHeartbeats 4000000 in
theorem b_X12_hasIt_0 {l : Launch} {G : GG} {d : Nat} {v0 : Nat} {v1 : Int32} {σ : Hp} {K : Bool → Hp → Prop} (hf : F_X12_hasIt l G d v0 v1 σ K) : Wd l G (d + 1) "CoinsLaidModel" yX12_hasIt cX12_hasIt 4 (some FieldType.boolean) 0 [(0, aR (some v0)), (1, aI v1)] [] σ 0 0 (xM (QZ K)) := by
  unfold F_X12_hasIt at hf
  refine r_aload_n (j := 0) rfl rfl dX12_hasIt_0 ?_
  obtain ⟨fs_x13, x13, ha_x13, hv_x13, hf⟩ := hf
  refine r_get (Cn := RX12) (Tt := TX12) (N := 42) (n := 31) rfl uw_X12 (Nat.le_of_ble_eq_true rfl) wd_6_217 ha_x13 hv_x13 dX12_hasIt_1 ?_
  refine r_iload_n (j := 1) rfl rfl dX12_hasIt_4 ?_
  obtain ⟨N_x14, f_x14, ha_x14, hi_x14, hf⟩ := hf
  refine r_iald ha_x14 hi_x14 dX12_hasIt_5 ?_
  generalize f_x14 (v1 : Int32).toNatClampNeg = x14 at hf ⊢
  refine r_ifge (x := x14) (tgt := 96) (by decide) dX12_hasIt_6 (fun hc => ?_) (fun hc => ?_)
  · replace hf := hf.1 hc
    exact r_sub [0, 1] rfl (b_X12_hasIt_96 hf)
  · replace hf := hf.2 hc
    refine r_aload_n (j := 0) rfl rfl dX12_hasIt_9 ?_
    refine r_iload_n (j := 1) rfl rfl dX12_hasIt_10 ?_
    try unfold C_X12_isOver at hf
    obtain ⟨⟨fs_r16, ha_r16⟩, hf⟩ := hf
    refine r_invVZ (t := 12) (As := [aI v1]) (dz := d) (mz := 0) (sz := 0) rfl wd_8_88 wd_8_90 wd_p_83 cf_X12_isOver (Nat.le_refl _) (Nat.zero_le _) (Nat.zero_le _) (cat_ok (Nat.le_of_ble_eq_true rfl)) rfl rfl ha_r16 dX12_hasIt_11 hf (fun r16 σ15 hk => ?_)
    replace hf := hk
    clear hk
    refine r_ifeqZ (b := r16) (tgt := 31) (by decide) dX12_hasIt_14 (fun hc => ?_) (fun hc => ?_)
    · replace hf := hf.1 hc
      exact r_sub [0, 1] rfl (b_X12_hasIt_31 hf)
    · replace hf := hf.2 hc
      refine r_aload_n (j := 0) rfl rfl dX12_hasIt_17 ?_
      obtain ⟨fs_x17, x17, ha_x17, hv_x17, hf⟩ := hf
      refine r_get (Cn := RX12) (Tt := TX12) (N := 42) (n := 15) rfl uw_X12 (Nat.le_of_ble_eq_true rfl) wd_6_201 ha_x17 hv_x17 dX12_hasIt_18 ?_
      refine r_iconst (v := 1) (by decide) dX12_hasIt_21 ?_
      obtain ⟨N_x18, f_x18, ha_x18, hi_x18, hf⟩ := hf
      refine r_iald ha_x18 hi_x18 dX12_hasIt_22 ?_
      generalize f_x18 (1 : Int32).toNatClampNeg = x18 at hf ⊢
      refine r_iconst (v := 1) (by decide) dX12_hasIt_23 ?_
      refine r_icmpne (x := x18) (y := 1) (tgt := 31) (by decide) dX12_hasIt_24 (fun hc => ?_) (fun hc => ?_)
      · replace hf := hf.1 hc
        exact r_sub [0, 1] rfl (b_X12_hasIt_31 hf)
      · replace hf := hf.2 hc
        refine r_iconst (v := 1) (by decide) dX12_hasIt_27 ?_
        refine r_goto (tgt := 32) (by decide) dX12_hasIt_28 ?_
        exact r_sub [0, 1] rfl (b_X12_hasIt_32 hf)
theorem m_X12_hasIt {l : Launch} {G : GG} {d : Nat} {v0 : Nat} {v1 : Int32} {σ : Hp} {K : Bool → Hp → Prop} (hr : rv σ v0 12) (hf : F_X12_hasIt l G d v0 v1 σ K) : C_X12_hasIt l G (d + 1) v0 v1 σ K := ⟨hr, Sp.of (by decide) (Nat.le_of_ble_eq_true rfl) (b_X12_hasIt_0 hf) rfl⟩
def F_X12_soonestFrom_112 (l : Launch) (G : GG) (d : Nat) (X27 : Nat → Int32 → Bool → Int32 → Int32 → Hp → Prop) (v0 : Nat) (v1 : Int32) (v2 : Bool) (v3 : Int32) (v4 : Int32) (σ : Hp) (K : Int32 → Hp → Prop) : Prop :=
  X27 v0 v1 v2 v3 (v4 + 1) σ
set_option maxRecDepth 100000 in
set_option maxHeartbeats 4000000 in
theorem b_X12_soonestFrom_112 {l : Launch} {G : GG} {d : Nat} {X27 : Nat → Int32 → Bool → Int32 → Int32 → Hp → Prop} {v0 : Nat} {v1 : Int32} {v2 : Bool} {v3 : Int32} {v4 : Int32} {σ : Hp} {K : Int32 → Hp → Prop} (hX27 : ∀ v0 v1 v2 v3 v4 σ, X27 v0 v1 v2 v3 v4 σ → Wd l G (d + 1) "CoinsLaidModel" yX12_soonestFrom cX12_soonestFrom 6 (some FieldType.int) 27 [(0, aR (some v0)), (1, aI v1), (2, aI (bi v2)), (3, aI v3), (4, aI v4)] [] σ 0 0 (xM (QI K))) (hf : F_X12_soonestFrom_112 l G d X27 v0 v1 v2 v3 v4 σ K) : Wd l G (d + 1) "CoinsLaidModel" yX12_soonestFrom cX12_soonestFrom 6 (some FieldType.int) 112 [(0, aR (some v0)), (1, aI v1), (2, aI (bi v2)), (3, aI v3), (4, aI v4)] [] σ 0 0 (xM (QI K)) := by
  unfold F_X12_soonestFrom_112 at hf
  refine r_iinc (j := 4) (w := (v4 + 1)) (L' := [(4, aI (v4 + 1)), (0, aR (some v0)), (1, aI v1), (2, aI (bi v2)), (3, aI v3)]) rfl (by rfl) rfl (Nat.le_of_ble_eq_true rfl) dX12_soonestFrom_112 ?_
  refine r_goto (tgt := 27) (by decide) dX12_soonestFrom_115 ?_
  exact r_sub [1, 2, 3, 4, 0] rfl (hX27 _ _ _ _ _ _ hf)
def F_X12_soonestFrom_111 (l : Launch) (G : GG) (d : Nat) (X27 : Nat → Int32 → Bool → Int32 → Int32 → Hp → Prop) (v0 : Nat) (v1 : Int32) (v2 : Bool) (v4 : Int32) (s0 : Int32) (σ : Hp) (K : Int32 → Hp → Prop) : Prop :=
  F_X12_soonestFrom_112 l G d X27 v0 v1 v2 s0 v4 σ K
set_option maxRecDepth 100000 in
set_option maxHeartbeats 4000000 in
theorem b_X12_soonestFrom_111 {l : Launch} {G : GG} {d : Nat} {X27 : Nat → Int32 → Bool → Int32 → Int32 → Hp → Prop} {v0 : Nat} {v1 : Int32} {v2 : Bool} {v4 : Int32} {s0 : Int32} {σ : Hp} {K : Int32 → Hp → Prop} (hX27 : ∀ v0 v1 v2 v3 v4 σ, X27 v0 v1 v2 v3 v4 σ → Wd l G (d + 1) "CoinsLaidModel" yX12_soonestFrom cX12_soonestFrom 6 (some FieldType.int) 27 [(0, aR (some v0)), (1, aI v1), (2, aI (bi v2)), (3, aI v3), (4, aI v4)] [] σ 0 0 (xM (QI K))) (hf : F_X12_soonestFrom_111 l G d X27 v0 v1 v2 v4 s0 σ K) : Wd l G (d + 1) "CoinsLaidModel" yX12_soonestFrom cX12_soonestFrom 6 (some FieldType.int) 111 [(0, aR (some v0)), (1, aI v1), (2, aI (bi v2)), (4, aI v4)] [aI s0] σ 0 0 (xM (QI K)) := by
  unfold F_X12_soonestFrom_111 at hf
  refine r_istore_n (L' := [(3, aI s0), (0, aR (some v0)), (1, aI v1), (2, aI (bi v2)), (4, aI v4)]) rfl rfl (Nat.le_of_ble_eq_true rfl) dX12_soonestFrom_111 ?_
  exact r_sub [1, 2, 3, 0, 4] rfl (b_X12_soonestFrom_112 hX27 hf)
def F_X12_soonestFrom_105 (l : Launch) (G : GG) (d : Nat) (X27 : Nat → Int32 → Bool → Int32 → Int32 → Hp → Prop) (v0 : Nat) (v1 : Int32) (v2 : Bool) (v4 : Int32) (v5 : Int32) (σ : Hp) (K : Int32 → Hp → Prop) : Prop :=
  F_X12_soonestFrom_111 l G d X27 v0 v1 v2 v4 v5 σ K
set_option maxRecDepth 100000 in
set_option maxHeartbeats 4000000 in
theorem b_X12_soonestFrom_105 {l : Launch} {G : GG} {d : Nat} {X27 : Nat → Int32 → Bool → Int32 → Int32 → Hp → Prop} {v0 : Nat} {v1 : Int32} {v2 : Bool} {v4 : Int32} {v5 : Int32} {σ : Hp} {K : Int32 → Hp → Prop} (hX27 : ∀ v0 v1 v2 v3 v4 σ, X27 v0 v1 v2 v3 v4 σ → Wd l G (d + 1) "CoinsLaidModel" yX12_soonestFrom cX12_soonestFrom 6 (some FieldType.int) 27 [(0, aR (some v0)), (1, aI v1), (2, aI (bi v2)), (3, aI v3), (4, aI v4)] [] σ 0 0 (xM (QI K))) (hf : F_X12_soonestFrom_105 l G d X27 v0 v1 v2 v4 v5 σ K) : Wd l G (d + 1) "CoinsLaidModel" yX12_soonestFrom cX12_soonestFrom 6 (some FieldType.int) 105 [(0, aR (some v0)), (1, aI v1), (2, aI (bi v2)), (4, aI v4), (5, aI v5)] [] σ 0 0 (xM (QI K)) := by
  unfold F_X12_soonestFrom_105 at hf
  refine r_iload (j := 4) rfl dX12_soonestFrom_105 ?_
  refine r_goto (tgt := 111) (by decide) dX12_soonestFrom_107 ?_
  exact r_sub [0, 1, 2, 3] rfl (b_X12_soonestFrom_111 hX27 hf)
def F_X12_soonestFrom_110 (l : Launch) (G : GG) (d : Nat) (X27 : Nat → Int32 → Bool → Int32 → Int32 → Hp → Prop) (v0 : Nat) (v1 : Int32) (v2 : Bool) (v3 : Int32) (v4 : Int32) (σ : Hp) (K : Int32 → Hp → Prop) : Prop :=
  F_X12_soonestFrom_111 l G d X27 v0 v1 v2 v4 v3 σ K
set_option maxRecDepth 100000 in
set_option maxHeartbeats 4000000 in
theorem b_X12_soonestFrom_110 {l : Launch} {G : GG} {d : Nat} {X27 : Nat → Int32 → Bool → Int32 → Int32 → Hp → Prop} {v0 : Nat} {v1 : Int32} {v2 : Bool} {v3 : Int32} {v4 : Int32} {σ : Hp} {K : Int32 → Hp → Prop} (hX27 : ∀ v0 v1 v2 v3 v4 σ, X27 v0 v1 v2 v3 v4 σ → Wd l G (d + 1) "CoinsLaidModel" yX12_soonestFrom cX12_soonestFrom 6 (some FieldType.int) 27 [(0, aR (some v0)), (1, aI v1), (2, aI (bi v2)), (3, aI v3), (4, aI v4)] [] σ 0 0 (xM (QI K))) (hf : F_X12_soonestFrom_110 l G d X27 v0 v1 v2 v3 v4 σ K) : Wd l G (d + 1) "CoinsLaidModel" yX12_soonestFrom cX12_soonestFrom 6 (some FieldType.int) 110 [(0, aR (some v0)), (1, aI v1), (2, aI (bi v2)), (3, aI v3), (4, aI v4)] [] σ 0 0 (xM (QI K)) := by
  unfold F_X12_soonestFrom_110 at hf
  refine r_iload_n (j := 3) rfl rfl dX12_soonestFrom_110 ?_
  exact r_sub [0, 1, 2, 4] rfl (b_X12_soonestFrom_111 hX27 hf)
def F_X12_soonestFrom_67 (l : Launch) (G : GG) (d : Nat) (X27 : Nat → Int32 → Bool → Int32 → Int32 → Hp → Prop) (v0 : Nat) (v1 : Int32) (v2 : Bool) (v3 : Int32) (v4 : Int32) (σ : Hp) (K : Int32 → Hp → Prop) : Prop :=
  C_X12_behind l G d v0 v1 v4 σ fun r2 σ1 =>
  C_X12_soonestFrom l G d v0 r2 σ1 fun r4 σ3 =>
  ((v3 : Int32) < 0 →
    F_X12_soonestFrom_105 l G d X27 v0 v1 v2 v4 (1 + r4) σ3 K) ∧
  (¬ (v3 : Int32) < 0 →
    (v2 = false →
      (((1 + r4) : Int32) ≤ (v3 : Int32) →
        F_X12_soonestFrom_110 l G d X27 v0 v1 v2 v3 v4 σ3 K) ∧
      (¬ ((1 + r4) : Int32) ≤ (v3 : Int32) →
        F_X12_soonestFrom_105 l G d X27 v0 v1 v2 v4 (1 + r4) σ3 K)) ∧
    (v2 = true →
      ((v3 : Int32) ≤ ((1 + r4) : Int32) →
        F_X12_soonestFrom_110 l G d X27 v0 v1 v2 v3 v4 σ3 K) ∧
      (¬ (v3 : Int32) ≤ ((1 + r4) : Int32) →
        F_X12_soonestFrom_105 l G d X27 v0 v1 v2 v4 (1 + r4) σ3 K)))
set_option maxRecDepth 100000 in
set_option maxHeartbeats 4000000 in
theorem b_X12_soonestFrom_67 {l : Launch} {G : GG} {d : Nat} {X27 : Nat → Int32 → Bool → Int32 → Int32 → Hp → Prop} {v0 : Nat} {v1 : Int32} {v2 : Bool} {v3 : Int32} {v4 : Int32} {σ : Hp} {K : Int32 → Hp → Prop} (hX27 : ∀ v0 v1 v2 v3 v4 σ, X27 v0 v1 v2 v3 v4 σ → Wd l G (d + 1) "CoinsLaidModel" yX12_soonestFrom cX12_soonestFrom 6 (some FieldType.int) 27 [(0, aR (some v0)), (1, aI v1), (2, aI (bi v2)), (3, aI v3), (4, aI v4)] [] σ 0 0 (xM (QI K))) (hf : F_X12_soonestFrom_67 l G d X27 v0 v1 v2 v3 v4 σ K) : Wd l G (d + 1) "CoinsLaidModel" yX12_soonestFrom cX12_soonestFrom 6 (some FieldType.int) 67 [(0, aR (some v0)), (1, aI v1), (2, aI (bi v2)), (3, aI v3), (4, aI v4)] [] σ 0 0 (xM (QI K)) := by
  unfold F_X12_soonestFrom_67 at hf
  refine r_iconst (v := 1) (by decide) dX12_soonestFrom_67 ?_
  refine r_aload_n (j := 0) rfl rfl dX12_soonestFrom_68 ?_
  refine r_aload_n (j := 0) rfl rfl dX12_soonestFrom_69 ?_
  refine r_iload_n (j := 1) rfl rfl dX12_soonestFrom_70 ?_
  refine r_iload (j := 4) rfl dX12_soonestFrom_71 ?_
  try unfold C_X12_behind at hf
  obtain ⟨⟨fs_r2, ha_r2⟩, hf⟩ := hf
  refine r_invVI (t := 12) (As := [aI v1, aI v4]) (dz := d) (mz := 0) (sz := 0) rfl wd_8_100 wd_8_102 wd_p_85 cf_X12_behind (Nat.le_refl _) (Nat.zero_le _) (Nat.zero_le _) (cat_ok (Nat.le_of_ble_eq_true rfl)) rfl rfl ha_r2 dX12_soonestFrom_73 hf (fun r2 σ1 hk => ?_)
  replace hf := hk
  clear hk
  try unfold C_X12_soonestFrom at hf
  obtain ⟨⟨fs_r4, ha_r4⟩, hf⟩ := hf
  refine r_invVI (t := 12) (As := [aI r2]) (dz := d) (mz := 0) (sz := 0) rfl wd_8_120 wd_8_122 wd_p_87 cf_X12_soonestFrom (Nat.le_refl _) (Nat.zero_le _) (Nat.zero_le _) (cat_ok (Nat.le_of_ble_eq_true rfl)) rfl rfl ha_r4 dX12_soonestFrom_76 hf (fun r4 σ3 hk => ?_)
  replace hf := hk
  clear hk
  refine r_iadd (x := 1) (y := r4) dX12_soonestFrom_79 ?_
  refine r_istore (L' := [(5, aI (1 + r4)), (0, aR (some v0)), (1, aI v1), (2, aI (bi v2)), (3, aI v3), (4, aI v4)]) rfl (Nat.le_of_ble_eq_true rfl) dX12_soonestFrom_80 ?_
  refine r_iload_n (j := 4) rfl rfl dX12_soonestFrom_82 ?_
  refine r_iflt (x := v3) (tgt := 105) (by decide) dX12_soonestFrom_83 (fun hc => ?_) (fun hc => ?_)
  · replace hf := hf.1 hc
    exact r_sub [1, 2, 3, 5, 0] rfl (b_X12_soonestFrom_105 hX27 hf)
  · replace hf := hf.2 hc
    refine r_iload_n (j := 3) rfl rfl dX12_soonestFrom_86 ?_
    refine r_ifeqZ (b := v2) (tgt := 99) (by decide) dX12_soonestFrom_87 (fun hc => ?_) (fun hc => ?_)
    · replace hf := hf.1 hc
      refine r_iload (j := 0) rfl dX12_soonestFrom_99 ?_
      refine r_iload_n (j := 4) rfl rfl dX12_soonestFrom_101 ?_
      refine r_icmple (x := (1 + r4)) (y := v3) (tgt := 110) (by decide) dX12_soonestFrom_102 (fun hc => ?_) (fun hc => ?_)
      · replace hf := hf.1 hc
        exact r_sub [1, 2, 3, 4, 5] rfl (b_X12_soonestFrom_110 hX27 hf)
      · replace hf := hf.2 hc
        exact r_sub [1, 2, 3, 5, 0] rfl (b_X12_soonestFrom_105 hX27 hf)
    · replace hf := hf.2 hc
      refine r_iload (j := 0) rfl dX12_soonestFrom_90 ?_
      refine r_iload_n (j := 4) rfl rfl dX12_soonestFrom_92 ?_
      refine r_icmpge (x := (1 + r4)) (y := v3) (tgt := 110) (by decide) dX12_soonestFrom_93 (fun hc => ?_) (fun hc => ?_)
      · replace hf := hf.1 hc
        exact r_sub [1, 2, 3, 4, 5] rfl (b_X12_soonestFrom_110 hX27 hf)
      · replace hf := hf.2 hc
        refine r_goto (tgt := 105) (by decide) dX12_soonestFrom_96 ?_
        exact r_sub [1, 2, 3, 5, 0] rfl (b_X12_soonestFrom_105 hX27 hf)
def F_X12_soonestFrom_132 (l : Launch) (G : GG) (d : Nat) (v0 : Nat) (v1 : Int32) (s0 : Nat) (s1 : Int32) (s2 : Int32) (σ : Hp) (K : Int32 → Hp → Prop) : Prop :=
  sI σ s0 s1 s2 fun σ5 =>
  fN σ5 v0 12 32 fun x7 =>
  gI σ5 x7 v1 fun x8 =>
  K x8 σ5
set_option maxRecDepth 100000 in
set_option maxHeartbeats 4000000 in
theorem b_X12_soonestFrom_132 {l : Launch} {G : GG} {d : Nat} {v0 : Nat} {v1 : Int32} {s0 : Nat} {s1 : Int32} {s2 : Int32} {σ : Hp} {K : Int32 → Hp → Prop} (hf : F_X12_soonestFrom_132 l G d v0 v1 s0 s1 s2 σ K) : Wd l G (d + 1) "CoinsLaidModel" yX12_soonestFrom cX12_soonestFrom 6 (some FieldType.int) 132 [(0, aR (some v0)), (1, aI v1)] [aI s2, aI s1, aR (some s0)] σ 0 0 (xM (QI K)) := by
  unfold F_X12_soonestFrom_132 at hf
  obtain ⟨N_x6, f_x6, ha_x6, hi_x6, hf⟩ := hf
  generalize hσ5 : hset σ s0 (iA N_x6 (up_ f_x6 (s1 : Int32).toNatClampNeg s2)) = σ5 at hf
  refine r_iast (f := f_x6) (x := s2) ha_x6 hi_x6 dX12_soonestFrom_132 ?_
  refine Eq.mpr (congrArg (fun z => Wd _ _ _ _ _ _ _ _ _ _ _ z _ _ _) hσ5) ?_
  refine r_aload_n (j := 0) rfl rfl dX12_soonestFrom_133 ?_
  obtain ⟨fs_x7, x7, ha_x7, hv_x7, hf⟩ := hf
  refine r_get (Cn := RX12) (Tt := TX12) (N := 42) (n := 32) rfl uw_X12 (Nat.le_of_ble_eq_true rfl) wd_6_218 ha_x7 hv_x7 dX12_soonestFrom_134 ?_
  refine r_iload_n (j := 1) rfl rfl dX12_soonestFrom_137 ?_
  obtain ⟨N_x8, f_x8, ha_x8, hi_x8, hf⟩ := hf
  refine r_iald ha_x8 hi_x8 dX12_soonestFrom_138 ?_
  generalize f_x8 (v1 : Int32).toNatClampNeg = x8 at hf ⊢
  exact r_ireturn rfl dX12_soonestFrom_139 rfl ⟨_, rfl, hf⟩
def F_X12_soonestFrom_27 (l : Launch) (G : GG) (d : Nat) (X27 : Nat → Int32 → Bool → Int32 → Int32 → Hp → Prop) (v0 : Nat) (v1 : Int32) (v2 : Bool) (v3 : Int32) (v4 : Int32) (σ : Hp) (K : Int32 → Hp → Prop) : Prop :=
  fI σ v0 12 30 fun x9 =>
  ((x9 : Int32) ≤ (v4 : Int32) →
    fN σ v0 12 32 fun x10 =>
    (0 ≤ (v3 : Int32) →
      F_X12_soonestFrom_132 l G d v0 v1 x10 v1 v3 σ K) ∧
    (¬ 0 ≤ (v3 : Int32) →
      F_X12_soonestFrom_132 l G d v0 v1 x10 v1 0 σ K)) ∧
  (¬ (x9 : Int32) ≤ (v4 : Int32) →
    C_X12_mayBe l G d v0 v1 v4 σ fun r12 σ11 =>
    (r12 = false →
      F_X12_soonestFrom_112 l G d X27 v0 v1 v2 v3 v4 σ11 K) ∧
    (r12 = true →
      (v2 = false →
        F_X12_soonestFrom_67 l G d X27 v0 v1 v2 v3 v4 σ11 K) ∧
      (v2 = true →
        C_X12_behind l G d v0 v1 v4 σ11 fun r14 σ13 =>
        C_X12_hasIt l G d v0 r14 σ13 fun r16 σ15 =>
        (r16 = false →
          F_X12_soonestFrom_67 l G d X27 v0 v1 v2 v3 v4 σ15 K) ∧
        (r16 = true →
          F_X12_soonestFrom_112 l G d X27 v0 v1 v2 v3 v4 σ15 K))))
set_option maxRecDepth 100000 in
set_option maxHeartbeats 4000000 in
theorem b_X12_soonestFrom_27 {l : Launch} {G : GG} {d : Nat} {X27 : Nat → Int32 → Bool → Int32 → Int32 → Hp → Prop} {v0 : Nat} {v1 : Int32} {v2 : Bool} {v3 : Int32} {v4 : Int32} {σ : Hp} {K : Int32 → Hp → Prop} (hX27 : ∀ v0 v1 v2 v3 v4 σ, X27 v0 v1 v2 v3 v4 σ → Wd l G (d + 1) "CoinsLaidModel" yX12_soonestFrom cX12_soonestFrom 6 (some FieldType.int) 27 [(0, aR (some v0)), (1, aI v1), (2, aI (bi v2)), (3, aI v3), (4, aI v4)] [] σ 0 0 (xM (QI K))) (hf : F_X12_soonestFrom_27 l G d X27 v0 v1 v2 v3 v4 σ K) : Wd l G (d + 1) "CoinsLaidModel" yX12_soonestFrom cX12_soonestFrom 6 (some FieldType.int) 27 [(0, aR (some v0)), (1, aI v1), (2, aI (bi v2)), (3, aI v3), (4, aI v4)] [] σ 0 0 (xM (QI K)) := by
  unfold F_X12_soonestFrom_27 at hf
  refine r_iload (j := 4) rfl dX12_soonestFrom_27 ?_
  refine r_aload_n (j := 0) rfl rfl dX12_soonestFrom_29 ?_
  obtain ⟨fs_x9, x9, ha_x9, hv_x9, hf⟩ := hf
  refine r_get (Cn := RX12) (Tt := TX12) (N := 42) (n := 30) rfl uw_X12 (Nat.le_of_ble_eq_true rfl) wd_6_216 ha_x9 hv_x9 dX12_soonestFrom_30 ?_
  refine r_icmpge (x := v4) (y := x9) (tgt := 118) (by decide) dX12_soonestFrom_33 (fun hc => ?_) (fun hc => ?_)
  · replace hf := hf.1 hc
    refine r_aload_n (j := 0) rfl rfl dX12_soonestFrom_118 ?_
    obtain ⟨fs_x10, x10, ha_x10, hv_x10, hf⟩ := hf
    refine r_get (Cn := RX12) (Tt := TX12) (N := 42) (n := 32) rfl uw_X12 (Nat.le_of_ble_eq_true rfl) wd_6_218 ha_x10 hv_x10 dX12_soonestFrom_119 ?_
    refine r_iload_n (j := 1) rfl rfl dX12_soonestFrom_122 ?_
    refine r_iload_n (j := 3) rfl rfl dX12_soonestFrom_123 ?_
    refine r_ifge (x := v3) (tgt := 131) (by decide) dX12_soonestFrom_124 (fun hc => ?_) (fun hc => ?_)
    · replace hf := hf.1 hc
      refine r_iload_n (j := 3) rfl rfl dX12_soonestFrom_131 ?_
      exact r_sub [0, 1] rfl (b_X12_soonestFrom_132 hf)
    · replace hf := hf.2 hc
      refine r_iconst (v := 0) (by decide) dX12_soonestFrom_127 ?_
      refine r_goto (tgt := 132) (by decide) dX12_soonestFrom_128 ?_
      exact r_sub [0, 1] rfl (b_X12_soonestFrom_132 hf)
  · replace hf := hf.2 hc
    refine r_aload_n (j := 0) rfl rfl dX12_soonestFrom_36 ?_
    refine r_iload_n (j := 1) rfl rfl dX12_soonestFrom_37 ?_
    refine r_iload (j := 4) rfl dX12_soonestFrom_38 ?_
    try unfold C_X12_mayBe at hf
    obtain ⟨⟨fs_r12, ha_r12⟩, hf⟩ := hf
    refine r_invVZ (t := 12) (As := [aI v1, aI v4]) (dz := d) (mz := 0) (sz := 0) rfl wd_8_30 wd_8_32 wd_p_78 cf_X12_mayBe (Nat.le_refl _) (Nat.zero_le _) (Nat.zero_le _) (cat_ok (Nat.le_of_ble_eq_true rfl)) rfl rfl ha_r12 dX12_soonestFrom_40 hf (fun r12 σ11 hk => ?_)
    replace hf := hk
    clear hk
    refine r_ifeqZ (b := r12) (tgt := 112) (by decide) dX12_soonestFrom_43 (fun hc => ?_) (fun hc => ?_)
    · replace hf := hf.1 hc
      exact r_sub [0, 1, 2, 3, 4] rfl (b_X12_soonestFrom_112 hX27 hf)
    · replace hf := hf.2 hc
      refine r_iload_n (j := 2) rfl rfl dX12_soonestFrom_46 ?_
      refine r_ifeqZ (b := v2) (tgt := 67) (by decide) dX12_soonestFrom_47 (fun hc => ?_) (fun hc => ?_)
      · replace hf := hf.1 hc
        exact r_sub [0, 1, 2, 3, 4] rfl (b_X12_soonestFrom_67 hX27 hf)
      · replace hf := hf.2 hc
        refine r_aload_n (j := 0) rfl rfl dX12_soonestFrom_50 ?_
        refine r_aload_n (j := 0) rfl rfl dX12_soonestFrom_51 ?_
        refine r_iload_n (j := 1) rfl rfl dX12_soonestFrom_52 ?_
        refine r_iload (j := 4) rfl dX12_soonestFrom_53 ?_
        try unfold C_X12_behind at hf
        obtain ⟨⟨fs_r14, ha_r14⟩, hf⟩ := hf
        refine r_invVI (t := 12) (As := [aI v1, aI v4]) (dz := d) (mz := 0) (sz := 0) rfl wd_8_100 wd_8_102 wd_p_85 cf_X12_behind (Nat.le_refl _) (Nat.zero_le _) (Nat.zero_le _) (cat_ok (Nat.le_of_ble_eq_true rfl)) rfl rfl ha_r14 dX12_soonestFrom_55 hf (fun r14 σ13 hk => ?_)
        replace hf := hk
        clear hk
        try unfold C_X12_hasIt at hf
        obtain ⟨⟨fs_r16, ha_r16⟩, hf⟩ := hf
        refine r_invVZ (t := 12) (As := [aI r14]) (dz := d) (mz := 0) (sz := 0) rfl wd_8_96 wd_8_98 wd_p_84 cf_X12_hasIt (Nat.le_refl _) (Nat.zero_le _) (Nat.zero_le _) (cat_ok (Nat.le_of_ble_eq_true rfl)) rfl rfl ha_r16 dX12_soonestFrom_58 hf (fun r16 σ15 hk => ?_)
        replace hf := hk
        clear hk
        refine r_ifeqZ (b := r16) (tgt := 67) (by decide) dX12_soonestFrom_61 (fun hc => ?_) (fun hc => ?_)
        · replace hf := hf.1 hc
          exact r_sub [0, 1, 2, 3, 4] rfl (b_X12_soonestFrom_67 hX27 hf)
        · replace hf := hf.2 hc
          refine r_goto (tgt := 112) (by decide) dX12_soonestFrom_64 ?_
          exact r_sub [0, 1, 2, 3, 4] rfl (b_X12_soonestFrom_112 hX27 hf)
def Z_X12_soonestFrom_27 (l : Launch) (G : GG) (d : Nat) (K : Int32 → Hp → Prop) : Nat → Nat → Int32 → Bool → Int32 → Int32 → Hp → Prop
  | 0 => fun _ _ _ _ _ _ => False
  | n + 1 => fun v0 v1 v2 v3 v4 σ => F_X12_soonestFrom_27 l G d (Z_X12_soonestFrom_27 l G d K n) v0 v1 v2 v3 v4 σ K
theorem z_X12_soonestFrom_27 {l : Launch} {G : GG} {d : Nat} {K : Int32 → Hp → Prop} : ∀ (n : Nat) v0 v1 v2 v3 v4 σ, Z_X12_soonestFrom_27 l G d K n v0 v1 v2 v3 v4 σ → Wd l G (d + 1) "CoinsLaidModel" yX12_soonestFrom cX12_soonestFrom 6 (some FieldType.int) 27 [(0, aR (some v0)), (1, aI v1), (2, aI (bi v2)), (3, aI v3), (4, aI v4)] [] σ 0 0 (xM (QI K)) := by
  intro n
  induction n with
  | zero => intro v0 v1 v2 v3 v4 σ hf; exact hf.elim
  | succ n ih => intro v0 v1 v2 v3 v4 σ hf; exact b_X12_soonestFrom_27 ih hf
def F_X12_soonestFrom (l : Launch) (G : GG) (d : Nat) (v0 : Nat) (v1 : Int32) (σ : Hp) (K : Int32 → Hp → Prop) : Prop :=
  fN σ v0 12 32 fun x17 =>
  gI σ x17 v1 fun x18 =>
  ((x18 : Int32) < 0 →
    C_X12_hasIt l G d v0 v1 σ fun r20 σ19 =>
    ∃ n, Z_X12_soonestFrom_27 l G d K n v0 v1 r20 (-1) 0 σ19) ∧
  (¬ (x18 : Int32) < 0 →
    fN σ v0 12 32 fun x21 =>
    gI σ x21 v1 fun x22 =>
    K x22 σ)
set_option maxRecDepth 100000 in
set_option maxHeartbeats 4000000 in
theorem b_X12_soonestFrom_0 {l : Launch} {G : GG} {d : Nat} {v0 : Nat} {v1 : Int32} {σ : Hp} {K : Int32 → Hp → Prop} (hf : F_X12_soonestFrom l G d v0 v1 σ K) : Wd l G (d + 1) "CoinsLaidModel" yX12_soonestFrom cX12_soonestFrom 6 (some FieldType.int) 0 [(0, aR (some v0)), (1, aI v1)] [] σ 0 0 (xM (QI K)) := by
  unfold F_X12_soonestFrom at hf
  refine r_aload_n (j := 0) rfl rfl dX12_soonestFrom_0 ?_
  obtain ⟨fs_x17, x17, ha_x17, hv_x17, hf⟩ := hf
  refine r_get (Cn := RX12) (Tt := TX12) (N := 42) (n := 32) rfl uw_X12 (Nat.le_of_ble_eq_true rfl) wd_6_218 ha_x17 hv_x17 dX12_soonestFrom_1 ?_
  refine r_iload_n (j := 1) rfl rfl dX12_soonestFrom_4 ?_
  obtain ⟨N_x18, f_x18, ha_x18, hi_x18, hf⟩ := hf
  refine r_iald ha_x18 hi_x18 dX12_soonestFrom_5 ?_
  generalize f_x18 (v1 : Int32).toNatClampNeg = x18 at hf ⊢
  refine r_iflt (x := x18) (tgt := 16) (by decide) dX12_soonestFrom_6 (fun hc => ?_) (fun hc => ?_)
  · replace hf := hf.1 hc
    refine r_aload_n (j := 0) rfl rfl dX12_soonestFrom_16 ?_
    refine r_iload_n (j := 1) rfl rfl dX12_soonestFrom_17 ?_
    try unfold C_X12_hasIt at hf
    obtain ⟨⟨fs_r20, ha_r20⟩, hf⟩ := hf
    refine r_invVZ (t := 12) (As := [aI v1]) (dz := d) (mz := 0) (sz := 0) rfl wd_8_96 wd_8_98 wd_p_84 cf_X12_hasIt (Nat.le_refl _) (Nat.zero_le _) (Nat.zero_le _) (cat_ok (Nat.le_of_ble_eq_true rfl)) rfl rfl ha_r20 dX12_soonestFrom_18 hf (fun r20 σ19 hk => ?_)
    replace hf := hk
    clear hk
    refine r_istore_n (L' := [(2, aI (bi r20)), (0, aR (some v0)), (1, aI v1)]) rfl rfl (Nat.le_of_ble_eq_true rfl) dX12_soonestFrom_21 ?_
    refine r_iconst (v := (-1)) (by decide) dX12_soonestFrom_22 ?_
    refine r_istore_n (L' := [(3, aI (-1)), (2, aI (bi r20)), (0, aR (some v0)), (1, aI v1)]) rfl rfl (Nat.le_of_ble_eq_true rfl) dX12_soonestFrom_23 ?_
    refine r_iconst (v := 0) (by decide) dX12_soonestFrom_24 ?_
    refine r_istore (L' := [(4, aI 0), (3, aI (-1)), (2, aI (bi r20)), (0, aR (some v0)), (1, aI v1)]) rfl (Nat.le_of_ble_eq_true rfl) dX12_soonestFrom_25 ?_
    obtain ⟨n, hf⟩ := hf
    exact r_sub [3, 4, 2, 1, 0] rfl (z_X12_soonestFrom_27 n _ _ _ _ _ _ hf)
  · replace hf := hf.2 hc
    refine r_aload_n (j := 0) rfl rfl dX12_soonestFrom_9 ?_
    obtain ⟨fs_x21, x21, ha_x21, hv_x21, hf⟩ := hf
    refine r_get (Cn := RX12) (Tt := TX12) (N := 42) (n := 32) rfl uw_X12 (Nat.le_of_ble_eq_true rfl) wd_6_218 ha_x21 hv_x21 dX12_soonestFrom_10 ?_
    refine r_iload_n (j := 1) rfl rfl dX12_soonestFrom_13 ?_
    obtain ⟨N_x22, f_x22, ha_x22, hi_x22, hf⟩ := hf
    refine r_iald ha_x22 hi_x22 dX12_soonestFrom_14 ?_
    generalize f_x22 (v1 : Int32).toNatClampNeg = x22 at hf ⊢
    exact r_ireturn rfl dX12_soonestFrom_15 rfl ⟨_, rfl, hf⟩
theorem m_X12_soonestFrom {l : Launch} {G : GG} {d : Nat} {v0 : Nat} {v1 : Int32} {σ : Hp} {K : Int32 → Hp → Prop} (hr : rv σ v0 12) (hf : F_X12_soonestFrom l G d v0 v1 σ K) : C_X12_soonestFrom l G (d + 1) v0 v1 σ K := ⟨hr, Sp.of (by decide) (Nat.le_of_ble_eq_true rfl) (b_X12_soonestFrom_0 hf) rfl⟩
def F_X12_waysFrom_75 (l : Launch) (G : GG) (d : Nat) (X23 : Nat → Int32 → Int64 → Int32 → Hp → Prop) (v0 : Nat) (v1 : Int32) (v2 : Int64) (v4 : Int32) (σ : Hp) (K : Int64 → Hp → Prop) : Prop :=
  X23 v0 v1 v2 (v4 + 1) σ
set_option maxRecDepth 100000 in
set_option maxHeartbeats 4000000 in
theorem b_X12_waysFrom_75 {l : Launch} {G : GG} {d : Nat} {X23 : Nat → Int32 → Int64 → Int32 → Hp → Prop} {v0 : Nat} {v1 : Int32} {v2 : Int64} {v4 : Int32} {σ : Hp} {K : Int64 → Hp → Prop} (hX23 : ∀ v0 v1 v2 v4 σ, X23 v0 v1 v2 v4 σ → Wd l G (d + 1) "CoinsLaidModel" yX12_waysFrom cX12_waysFrom 5 (some FieldType.long) 23 [(0, aR (some v0)), (1, aI v1), (2, aJ v2), (4, aI v4)] [] σ 0 0 (xM (QJ K))) (hf : F_X12_waysFrom_75 l G d X23 v0 v1 v2 v4 σ K) : Wd l G (d + 1) "CoinsLaidModel" yX12_waysFrom cX12_waysFrom 5 (some FieldType.long) 75 [(0, aR (some v0)), (1, aI v1), (2, aJ v2), (4, aI v4)] [] σ 0 0 (xM (QJ K)) := by
  unfold F_X12_waysFrom_75 at hf
  refine r_iinc (j := 3) (w := (v4 + 1)) (L' := [(4, aI (v4 + 1)), (0, aR (some v0)), (1, aI v1), (2, aJ v2)]) rfl (by rfl) rfl (Nat.le_of_ble_eq_true rfl) dX12_waysFrom_75 ?_
  refine r_goto (tgt := 23) (by decide) dX12_waysFrom_78 ?_
  exact r_sub [1, 2, 3, 0] rfl (hX23 _ _ _ _ _ hf)
def F_X12_waysFrom_74 (l : Launch) (G : GG) (d : Nat) (X23 : Nat → Int32 → Int64 → Int32 → Hp → Prop) (v0 : Nat) (v1 : Int32) (v4 : Int32) (s0 : Int64) (σ : Hp) (K : Int64 → Hp → Prop) : Prop :=
  F_X12_waysFrom_75 l G d X23 v0 v1 s0 v4 σ K
set_option maxRecDepth 100000 in
set_option maxHeartbeats 4000000 in
theorem b_X12_waysFrom_74 {l : Launch} {G : GG} {d : Nat} {X23 : Nat → Int32 → Int64 → Int32 → Hp → Prop} {v0 : Nat} {v1 : Int32} {v4 : Int32} {s0 : Int64} {σ : Hp} {K : Int64 → Hp → Prop} (hX23 : ∀ v0 v1 v2 v4 σ, X23 v0 v1 v2 v4 σ → Wd l G (d + 1) "CoinsLaidModel" yX12_waysFrom cX12_waysFrom 5 (some FieldType.long) 23 [(0, aR (some v0)), (1, aI v1), (2, aJ v2), (4, aI v4)] [] σ 0 0 (xM (QJ K))) (hf : F_X12_waysFrom_74 l G d X23 v0 v1 v4 s0 σ K) : Wd l G (d + 1) "CoinsLaidModel" yX12_waysFrom cX12_waysFrom 5 (some FieldType.long) 74 [(0, aR (some v0)), (1, aI v1), (4, aI v4)] [aJ s0] σ 0 0 (xM (QJ K)) := by
  unfold F_X12_waysFrom_74 at hf
  refine r_lstore_n (L' := [(2, aJ s0), (0, aR (some v0)), (1, aI v1), (4, aI v4)]) rfl rfl (Nat.le_of_ble_eq_true rfl) dX12_waysFrom_74 ?_
  exact r_sub [1, 2, 0, 3] rfl (b_X12_waysFrom_75 hX23 hf)
def F_X12_waysFrom_99 (l : Launch) (G : GG) (d : Nat) (v0 : Nat) (v1 : Int32) (s0 : Nat) (s1 : Int32) (s2 : Int64) (σ : Hp) (K : Int64 → Hp → Prop) : Prop :=
  sJ σ s0 s1 s2 fun σ1 =>
  fN σ1 v0 12 37 fun x3 =>
  gJ σ1 x3 v1 fun x4 =>
  K x4 σ1
set_option maxRecDepth 100000 in
set_option maxHeartbeats 4000000 in
theorem b_X12_waysFrom_99 {l : Launch} {G : GG} {d : Nat} {v0 : Nat} {v1 : Int32} {s0 : Nat} {s1 : Int32} {s2 : Int64} {σ : Hp} {K : Int64 → Hp → Prop} (hf : F_X12_waysFrom_99 l G d v0 v1 s0 s1 s2 σ K) : Wd l G (d + 1) "CoinsLaidModel" yX12_waysFrom cX12_waysFrom 5 (some FieldType.long) 99 [(0, aR (some v0)), (1, aI v1)] [aJ s2, aI s1, aR (some s0)] σ 0 0 (xM (QJ K)) := by
  unfold F_X12_waysFrom_99 at hf
  obtain ⟨N_x2, f_x2, ha_x2, hi_x2, hf⟩ := hf
  generalize hσ1 : hset σ s0 (jA N_x2 (up_ f_x2 (s1 : Int32).toNatClampNeg s2)) = σ1 at hf
  refine r_last (f := f_x2) (x := s2) ha_x2 hi_x2 dX12_waysFrom_99 ?_
  refine Eq.mpr (congrArg (fun z => Wd _ _ _ _ _ _ _ _ _ _ _ z _ _ _) hσ1) ?_
  refine r_aload_n (j := 0) rfl rfl dX12_waysFrom_100 ?_
  obtain ⟨fs_x3, x3, ha_x3, hv_x3, hf⟩ := hf
  refine r_get (Cn := RX12) (Tt := TX12) (N := 42) (n := 37) rfl uw_X12 (Nat.le_of_ble_eq_true rfl) wd_6_223 ha_x3 hv_x3 dX12_waysFrom_101 ?_
  refine r_iload_n (j := 1) rfl rfl dX12_waysFrom_104 ?_
  obtain ⟨N_x4, f_x4, ha_x4, hi_x4, hf⟩ := hf
  refine r_lald ha_x4 hi_x4 dX12_waysFrom_105 ?_
  generalize f_x4 (v1 : Int32).toNatClampNeg = x4 at hf ⊢
  exact r_lreturn rfl dX12_waysFrom_106 rfl ⟨_, rfl, hf⟩
def F_X12_waysFrom_23 (l : Launch) (G : GG) (d : Nat) (X23 : Nat → Int32 → Int64 → Int32 → Hp → Prop) (v0 : Nat) (v1 : Int32) (v2 : Int64) (v4 : Int32) (σ : Hp) (K : Int64 → Hp → Prop) : Prop :=
  fI σ v0 12 30 fun x5 =>
  ((x5 : Int32) ≤ (v4 : Int32) →
    fN σ v0 12 37 fun x6 =>
    C_X12_isOver l G d v0 v1 σ fun r8 σ7 =>
    (r8 = false →
      F_X12_waysFrom_99 l G d v0 v1 x6 v1 v2 σ7 K) ∧
    (r8 = true →
      F_X12_waysFrom_99 l G d v0 v1 x6 v1 (1 : Int64) σ7 K)) ∧
  (¬ (x5 : Int32) ≤ (v4 : Int32) →
    C_X12_mayBe l G d v0 v1 v4 σ fun r10 σ9 =>
    (r10 = true →
      C_X12_behind l G d v0 v1 v4 σ9 fun r12 σ11 =>
      C_X12_waysFrom l G d v0 r12 σ11 fun r14 σ13 =>
      (((lg_cmp (v2 + r14) (1000000000000000000 : Int64)) : Int32) ≤ 0 →
        F_X12_waysFrom_74 l G d X23 v0 v1 v4 (v2 + r14) σ13 K) ∧
      (¬ ((lg_cmp (v2 + r14) (1000000000000000000 : Int64)) : Int32) ≤ 0 →
        F_X12_waysFrom_74 l G d X23 v0 v1 v4 (1000000000000000000 : Int64) σ13 K)) ∧
    (r10 = false →
      F_X12_waysFrom_75 l G d X23 v0 v1 v2 v4 σ9 K))
set_option maxRecDepth 100000 in
set_option maxHeartbeats 4000000 in
theorem b_X12_waysFrom_23 {l : Launch} {G : GG} {d : Nat} {X23 : Nat → Int32 → Int64 → Int32 → Hp → Prop} {v0 : Nat} {v1 : Int32} {v2 : Int64} {v4 : Int32} {σ : Hp} {K : Int64 → Hp → Prop} (hX23 : ∀ v0 v1 v2 v4 σ, X23 v0 v1 v2 v4 σ → Wd l G (d + 1) "CoinsLaidModel" yX12_waysFrom cX12_waysFrom 5 (some FieldType.long) 23 [(0, aR (some v0)), (1, aI v1), (2, aJ v2), (4, aI v4)] [] σ 0 0 (xM (QJ K))) (hf : F_X12_waysFrom_23 l G d X23 v0 v1 v2 v4 σ K) : Wd l G (d + 1) "CoinsLaidModel" yX12_waysFrom cX12_waysFrom 5 (some FieldType.long) 23 [(0, aR (some v0)), (1, aI v1), (2, aJ v2), (4, aI v4)] [] σ 0 0 (xM (QJ K)) := by
  unfold F_X12_waysFrom_23 at hf
  refine r_iload (j := 3) rfl dX12_waysFrom_23 ?_
  refine r_aload_n (j := 0) rfl rfl dX12_waysFrom_25 ?_
  obtain ⟨fs_x5, x5, ha_x5, hv_x5, hf⟩ := hf
  refine r_get (Cn := RX12) (Tt := TX12) (N := 42) (n := 30) rfl uw_X12 (Nat.le_of_ble_eq_true rfl) wd_6_216 ha_x5 hv_x5 dX12_waysFrom_26 ?_
  refine r_icmpge (x := v4) (y := x5) (tgt := 81) (by decide) dX12_waysFrom_29 (fun hc => ?_) (fun hc => ?_)
  · replace hf := hf.1 hc
    refine r_aload_n (j := 0) rfl rfl dX12_waysFrom_81 ?_
    obtain ⟨fs_x6, x6, ha_x6, hv_x6, hf⟩ := hf
    refine r_get (Cn := RX12) (Tt := TX12) (N := 42) (n := 37) rfl uw_X12 (Nat.le_of_ble_eq_true rfl) wd_6_223 ha_x6 hv_x6 dX12_waysFrom_82 ?_
    refine r_iload_n (j := 1) rfl rfl dX12_waysFrom_85 ?_
    refine r_aload_n (j := 0) rfl rfl dX12_waysFrom_86 ?_
    refine r_iload_n (j := 1) rfl rfl dX12_waysFrom_87 ?_
    try unfold C_X12_isOver at hf
    obtain ⟨⟨fs_r8, ha_r8⟩, hf⟩ := hf
    refine r_invVZ (t := 12) (As := [aI v1]) (dz := d) (mz := 0) (sz := 0) rfl wd_8_88 wd_8_90 wd_p_83 cf_X12_isOver (Nat.le_refl _) (Nat.zero_le _) (Nat.zero_le _) (cat_ok (Nat.le_of_ble_eq_true rfl)) rfl rfl ha_r8 dX12_waysFrom_88 hf (fun r8 σ7 hk => ?_)
    replace hf := hk
    clear hk
    refine r_ifeqZ (b := r8) (tgt := 98) (by decide) dX12_waysFrom_91 (fun hc => ?_) (fun hc => ?_)
    · replace hf := hf.1 hc
      refine r_lload_n (j := 2) rfl rfl dX12_waysFrom_98 ?_
      exact r_sub [0, 1] rfl (b_X12_waysFrom_99 hf)
    · replace hf := hf.2 hc
      refine r_lconst (v := 1) (by decide) dX12_waysFrom_94 ?_
      refine r_goto (tgt := 99) (by decide) dX12_waysFrom_95 ?_
      exact r_sub [0, 1] rfl (b_X12_waysFrom_99 hf)
  · replace hf := hf.2 hc
    refine r_aload_n (j := 0) rfl rfl dX12_waysFrom_32 ?_
    refine r_iload_n (j := 1) rfl rfl dX12_waysFrom_33 ?_
    refine r_iload (j := 3) rfl dX12_waysFrom_34 ?_
    try unfold C_X12_mayBe at hf
    obtain ⟨⟨fs_r10, ha_r10⟩, hf⟩ := hf
    refine r_invVZ (t := 12) (As := [aI v1, aI v4]) (dz := d) (mz := 0) (sz := 0) rfl wd_8_30 wd_8_32 wd_p_78 cf_X12_mayBe (Nat.le_refl _) (Nat.zero_le _) (Nat.zero_le _) (cat_ok (Nat.le_of_ble_eq_true rfl)) rfl rfl ha_r10 dX12_waysFrom_36 hf (fun r10 σ9 hk => ?_)
    replace hf := hk
    clear hk
    refine r_ifneZ (b := r10) (tgt := 45) (by decide) dX12_waysFrom_39 (fun hc => ?_) (fun hc => ?_)
    · replace hf := hf.1 hc
      refine r_lload_n (j := 2) rfl rfl dX12_waysFrom_45 ?_
      refine r_aload_n (j := 0) rfl rfl dX12_waysFrom_46 ?_
      refine r_aload_n (j := 0) rfl rfl dX12_waysFrom_47 ?_
      refine r_iload_n (j := 1) rfl rfl dX12_waysFrom_48 ?_
      refine r_iload (j := 3) rfl dX12_waysFrom_49 ?_
      try unfold C_X12_behind at hf
      obtain ⟨⟨fs_r12, ha_r12⟩, hf⟩ := hf
      refine r_invVI (t := 12) (As := [aI v1, aI v4]) (dz := d) (mz := 0) (sz := 0) rfl wd_8_100 wd_8_102 wd_p_85 cf_X12_behind (Nat.le_refl _) (Nat.zero_le _) (Nat.zero_le _) (cat_ok (Nat.le_of_ble_eq_true rfl)) rfl rfl ha_r12 dX12_waysFrom_51 hf (fun r12 σ11 hk => ?_)
      replace hf := hk
      clear hk
      try unfold C_X12_waysFrom at hf
      obtain ⟨⟨fs_r14, ha_r14⟩, hf⟩ := hf
      refine r_invVJ (t := 12) (As := [aI r12]) (dz := d) (mz := 0) (sz := 0) rfl wd_8_128 wd_8_130 wd_p_88 cf_X12_waysFrom (Nat.le_refl _) (Nat.zero_le _) (Nat.zero_le _) (cat_ok (Nat.le_of_ble_eq_true rfl)) rfl rfl ha_r14 dX12_waysFrom_54 hf (fun r14 σ13 hk => ?_)
      replace hf := hk
      clear hk
      refine r_ladd (x := v2) (y := r14) dX12_waysFrom_57 ?_
      refine r_lstore_n (L' := [(2, aJ (v2 + r14)), (0, aR (some v0)), (1, aI v1), (4, aI v4)]) rfl rfl (Nat.le_of_ble_eq_true rfl) dX12_waysFrom_58 ?_
      refine r_lload_n (j := 0) rfl rfl dX12_waysFrom_59 ?_
      refine r_ldc2 wd_8_132 dX12_waysFrom_60 ?_
      refine r_lcmp (x := (v2 + r14)) (y := (1000000000000000000 : Int64)) dX12_waysFrom_63 ?_
      refine r_ifle (x := (lg_cmp (v2 + r14) (1000000000000000000 : Int64))) (tgt := 73) (by decide) dX12_waysFrom_64 (fun hc => ?_) (fun hc => ?_)
      · replace hf := hf.1 hc
        refine r_lload_n (j := 0) rfl rfl dX12_waysFrom_73 ?_
        exact r_sub [1, 2, 3] rfl (b_X12_waysFrom_74 hX23 hf)
      · replace hf := hf.2 hc
        refine r_ldc2 wd_8_132 dX12_waysFrom_67 ?_
        refine r_goto (tgt := 74) (by decide) dX12_waysFrom_70 ?_
        exact r_sub [1, 2, 3] rfl (b_X12_waysFrom_74 hX23 hf)
    · replace hf := hf.2 hc
      refine r_goto (tgt := 75) (by decide) dX12_waysFrom_42 ?_
      exact r_sub [0, 1, 2, 3] rfl (b_X12_waysFrom_75 hX23 hf)
def Z_X12_waysFrom_23 (l : Launch) (G : GG) (d : Nat) (K : Int64 → Hp → Prop) : Nat → Nat → Int32 → Int64 → Int32 → Hp → Prop
  | 0 => fun _ _ _ _ _ => False
  | n + 1 => fun v0 v1 v2 v4 σ => F_X12_waysFrom_23 l G d (Z_X12_waysFrom_23 l G d K n) v0 v1 v2 v4 σ K
theorem z_X12_waysFrom_23 {l : Launch} {G : GG} {d : Nat} {K : Int64 → Hp → Prop} : ∀ (n : Nat) v0 v1 v2 v4 σ, Z_X12_waysFrom_23 l G d K n v0 v1 v2 v4 σ → Wd l G (d + 1) "CoinsLaidModel" yX12_waysFrom cX12_waysFrom 5 (some FieldType.long) 23 [(0, aR (some v0)), (1, aI v1), (2, aJ v2), (4, aI v4)] [] σ 0 0 (xM (QJ K)) := by
  intro n
  induction n with
  | zero => intro v0 v1 v2 v4 σ hf; exact hf.elim
  | succ n ih => intro v0 v1 v2 v4 σ hf; exact b_X12_waysFrom_23 ih hf
def F_X12_waysFrom (l : Launch) (G : GG) (d : Nat) (v0 : Nat) (v1 : Int32) (σ : Hp) (K : Int64 → Hp → Prop) : Prop :=
  fN σ v0 12 37 fun x15 =>
  gJ σ x15 v1 fun x16 =>
  (((lg_cmp x16 (0 : Int64)) : Int32) < 0 →
    ∃ n, Z_X12_waysFrom_23 l G d K n v0 v1 (0 : Int64) 0 σ) ∧
  (¬ ((lg_cmp x16 (0 : Int64)) : Int32) < 0 →
    fN σ v0 12 37 fun x17 =>
    gJ σ x17 v1 fun x18 =>
    K x18 σ)
set_option maxRecDepth 100000 in
set_option maxHeartbeats 4000000 in
theorem b_X12_waysFrom_0 {l : Launch} {G : GG} {d : Nat} {v0 : Nat} {v1 : Int32} {σ : Hp} {K : Int64 → Hp → Prop} (hf : F_X12_waysFrom l G d v0 v1 σ K) : Wd l G (d + 1) "CoinsLaidModel" yX12_waysFrom cX12_waysFrom 5 (some FieldType.long) 0 [(0, aR (some v0)), (1, aI v1)] [] σ 0 0 (xM (QJ K)) := by
  unfold F_X12_waysFrom at hf
  refine r_aload_n (j := 0) rfl rfl dX12_waysFrom_0 ?_
  obtain ⟨fs_x15, x15, ha_x15, hv_x15, hf⟩ := hf
  refine r_get (Cn := RX12) (Tt := TX12) (N := 42) (n := 37) rfl uw_X12 (Nat.le_of_ble_eq_true rfl) wd_6_223 ha_x15 hv_x15 dX12_waysFrom_1 ?_
  refine r_iload_n (j := 1) rfl rfl dX12_waysFrom_4 ?_
  obtain ⟨N_x16, f_x16, ha_x16, hi_x16, hf⟩ := hf
  refine r_lald ha_x16 hi_x16 dX12_waysFrom_5 ?_
  generalize f_x16 (v1 : Int32).toNatClampNeg = x16 at hf ⊢
  refine r_lconst (v := 0) (by decide) dX12_waysFrom_6 ?_
  refine r_lcmp (x := x16) (y := (0 : Int64)) dX12_waysFrom_7 ?_
  refine r_iflt (x := (lg_cmp x16 (0 : Int64))) (tgt := 18) (by decide) dX12_waysFrom_8 (fun hc => ?_) (fun hc => ?_)
  · replace hf := hf.1 hc
    refine r_lconst (v := 0) (by decide) dX12_waysFrom_18 ?_
    refine r_lstore_n (L' := [(2, aJ (0 : Int64)), (0, aR (some v0)), (1, aI v1)]) rfl rfl (Nat.le_of_ble_eq_true rfl) dX12_waysFrom_19 ?_
    refine r_iconst (v := 0) (by decide) dX12_waysFrom_20 ?_
    refine r_istore (L' := [(4, aI 0), (2, aJ (0 : Int64)), (0, aR (some v0)), (1, aI v1)]) rfl (Nat.le_of_ble_eq_true rfl) dX12_waysFrom_21 ?_
    obtain ⟨n, hf⟩ := hf
    exact r_sub [2, 3, 1, 0] rfl (z_X12_waysFrom_23 n _ _ _ _ _ hf)
  · replace hf := hf.2 hc
    refine r_aload_n (j := 0) rfl rfl dX12_waysFrom_11 ?_
    obtain ⟨fs_x17, x17, ha_x17, hv_x17, hf⟩ := hf
    refine r_get (Cn := RX12) (Tt := TX12) (N := 42) (n := 37) rfl uw_X12 (Nat.le_of_ble_eq_true rfl) wd_6_223 ha_x17 hv_x17 dX12_waysFrom_12 ?_
    refine r_iload_n (j := 1) rfl rfl dX12_waysFrom_15 ?_
    obtain ⟨N_x18, f_x18, ha_x18, hi_x18, hf⟩ := hf
    refine r_lald ha_x18 hi_x18 dX12_waysFrom_16 ?_
    generalize f_x18 (v1 : Int32).toNatClampNeg = x18 at hf ⊢
    exact r_lreturn rfl dX12_waysFrom_17 rfl ⟨_, rfl, hf⟩
theorem m_X12_waysFrom {l : Launch} {G : GG} {d : Nat} {v0 : Nat} {v1 : Int32} {σ : Hp} {K : Int64 → Hp → Prop} (hr : rv σ v0 12) (hf : F_X12_waysFrom l G d v0 v1 σ K) : C_X12_waysFrom l G (d + 1) v0 v1 σ K := ⟨hr, Sp.of (by decide) (Nat.le_of_ble_eq_true rfl) (b_X12_waysFrom_0 hf) rfl⟩
def F_X12_fewestFrom_71 (l : Launch) (G : GG) (d : Nat) (X20 : Nat → Int32 → Int32 → Int32 → Hp → Prop) (v0 : Nat) (v1 : Int32) (v2 : Int32) (v3 : Int32) (σ : Hp) (K : Int32 → Hp → Prop) : Prop :=
  X20 v0 v1 v2 (v3 + 1) σ
set_option maxRecDepth 100000 in
set_option maxHeartbeats 4000000 in
theorem b_X12_fewestFrom_71 {l : Launch} {G : GG} {d : Nat} {X20 : Nat → Int32 → Int32 → Int32 → Hp → Prop} {v0 : Nat} {v1 : Int32} {v2 : Int32} {v3 : Int32} {σ : Hp} {K : Int32 → Hp → Prop} (hX20 : ∀ v0 v1 v2 v3 σ, X20 v0 v1 v2 v3 σ → Wd l G (d + 1) "CoinsLaidModel" yX12_fewestFrom cX12_fewestFrom 5 (some FieldType.int) 20 [(0, aR (some v0)), (1, aI v1), (2, aI v2), (3, aI v3)] [] σ 0 0 (xM (QI K))) (hf : F_X12_fewestFrom_71 l G d X20 v0 v1 v2 v3 σ K) : Wd l G (d + 1) "CoinsLaidModel" yX12_fewestFrom cX12_fewestFrom 5 (some FieldType.int) 71 [(0, aR (some v0)), (1, aI v1), (2, aI v2), (3, aI v3)] [] σ 0 0 (xM (QI K)) := by
  unfold F_X12_fewestFrom_71 at hf
  refine r_iinc (j := 3) (w := (v3 + 1)) (L' := [(3, aI (v3 + 1)), (0, aR (some v0)), (1, aI v1), (2, aI v2)]) rfl (by rfl) rfl (Nat.le_of_ble_eq_true rfl) dX12_fewestFrom_71 ?_
  refine r_goto (tgt := 20) (by decide) dX12_fewestFrom_74 ?_
  exact r_sub [1, 2, 3, 0] rfl (hX20 _ _ _ _ _ hf)
def F_X12_fewestFrom_70 (l : Launch) (G : GG) (d : Nat) (X20 : Nat → Int32 → Int32 → Int32 → Hp → Prop) (v0 : Nat) (v1 : Int32) (v3 : Int32) (s0 : Int32) (σ : Hp) (K : Int32 → Hp → Prop) : Prop :=
  F_X12_fewestFrom_71 l G d X20 v0 v1 s0 v3 σ K
set_option maxRecDepth 100000 in
set_option maxHeartbeats 4000000 in
theorem b_X12_fewestFrom_70 {l : Launch} {G : GG} {d : Nat} {X20 : Nat → Int32 → Int32 → Int32 → Hp → Prop} {v0 : Nat} {v1 : Int32} {v3 : Int32} {s0 : Int32} {σ : Hp} {K : Int32 → Hp → Prop} (hX20 : ∀ v0 v1 v2 v3 σ, X20 v0 v1 v2 v3 σ → Wd l G (d + 1) "CoinsLaidModel" yX12_fewestFrom cX12_fewestFrom 5 (some FieldType.int) 20 [(0, aR (some v0)), (1, aI v1), (2, aI v2), (3, aI v3)] [] σ 0 0 (xM (QI K))) (hf : F_X12_fewestFrom_70 l G d X20 v0 v1 v3 s0 σ K) : Wd l G (d + 1) "CoinsLaidModel" yX12_fewestFrom cX12_fewestFrom 5 (some FieldType.int) 70 [(0, aR (some v0)), (1, aI v1), (3, aI v3)] [aI s0] σ 0 0 (xM (QI K)) := by
  unfold F_X12_fewestFrom_70 at hf
  refine r_istore_n (L' := [(2, aI s0), (0, aR (some v0)), (1, aI v1), (3, aI v3)]) rfl rfl (Nat.le_of_ble_eq_true rfl) dX12_fewestFrom_70 ?_
  exact r_sub [1, 2, 0, 3] rfl (b_X12_fewestFrom_71 hX20 hf)
def F_X12_fewestFrom_64 (l : Launch) (G : GG) (d : Nat) (X20 : Nat → Int32 → Int32 → Int32 → Hp → Prop) (v0 : Nat) (v1 : Int32) (v3 : Int32) (v4 : Int32) (σ : Hp) (K : Int32 → Hp → Prop) : Prop :=
  F_X12_fewestFrom_70 l G d X20 v0 v1 v3 v4 σ K
set_option maxRecDepth 100000 in
set_option maxHeartbeats 4000000 in
theorem b_X12_fewestFrom_64 {l : Launch} {G : GG} {d : Nat} {X20 : Nat → Int32 → Int32 → Int32 → Hp → Prop} {v0 : Nat} {v1 : Int32} {v3 : Int32} {v4 : Int32} {σ : Hp} {K : Int32 → Hp → Prop} (hX20 : ∀ v0 v1 v2 v3 σ, X20 v0 v1 v2 v3 σ → Wd l G (d + 1) "CoinsLaidModel" yX12_fewestFrom cX12_fewestFrom 5 (some FieldType.int) 20 [(0, aR (some v0)), (1, aI v1), (2, aI v2), (3, aI v3)] [] σ 0 0 (xM (QI K))) (hf : F_X12_fewestFrom_64 l G d X20 v0 v1 v3 v4 σ K) : Wd l G (d + 1) "CoinsLaidModel" yX12_fewestFrom cX12_fewestFrom 5 (some FieldType.int) 64 [(0, aR (some v0)), (1, aI v1), (3, aI v3), (4, aI v4)] [] σ 0 0 (xM (QI K)) := by
  unfold F_X12_fewestFrom_64 at hf
  refine r_iload (j := 3) rfl dX12_fewestFrom_64 ?_
  refine r_goto (tgt := 70) (by decide) dX12_fewestFrom_66 ?_
  exact r_sub [0, 1, 2] rfl (b_X12_fewestFrom_70 hX20 hf)
def F_X12_fewestFrom_91 (l : Launch) (G : GG) (d : Nat) (v0 : Nat) (v1 : Int32) (s0 : Nat) (s1 : Int32) (s2 : Int32) (σ : Hp) (K : Int32 → Hp → Prop) : Prop :=
  sI σ s0 s1 s2 fun σ1 =>
  fN σ1 v0 12 33 fun x3 =>
  gI σ1 x3 v1 fun x4 =>
  K x4 σ1
set_option maxRecDepth 100000 in
set_option maxHeartbeats 4000000 in
theorem b_X12_fewestFrom_91 {l : Launch} {G : GG} {d : Nat} {v0 : Nat} {v1 : Int32} {s0 : Nat} {s1 : Int32} {s2 : Int32} {σ : Hp} {K : Int32 → Hp → Prop} (hf : F_X12_fewestFrom_91 l G d v0 v1 s0 s1 s2 σ K) : Wd l G (d + 1) "CoinsLaidModel" yX12_fewestFrom cX12_fewestFrom 5 (some FieldType.int) 91 [(0, aR (some v0)), (1, aI v1)] [aI s2, aI s1, aR (some s0)] σ 0 0 (xM (QI K)) := by
  unfold F_X12_fewestFrom_91 at hf
  obtain ⟨N_x2, f_x2, ha_x2, hi_x2, hf⟩ := hf
  generalize hσ1 : hset σ s0 (iA N_x2 (up_ f_x2 (s1 : Int32).toNatClampNeg s2)) = σ1 at hf
  refine r_iast (f := f_x2) (x := s2) ha_x2 hi_x2 dX12_fewestFrom_91 ?_
  refine Eq.mpr (congrArg (fun z => Wd _ _ _ _ _ _ _ _ _ _ _ z _ _ _) hσ1) ?_
  refine r_aload_n (j := 0) rfl rfl dX12_fewestFrom_92 ?_
  obtain ⟨fs_x3, x3, ha_x3, hv_x3, hf⟩ := hf
  refine r_get (Cn := RX12) (Tt := TX12) (N := 42) (n := 33) rfl uw_X12 (Nat.le_of_ble_eq_true rfl) wd_6_219 ha_x3 hv_x3 dX12_fewestFrom_93 ?_
  refine r_iload_n (j := 1) rfl rfl dX12_fewestFrom_96 ?_
  obtain ⟨N_x4, f_x4, ha_x4, hi_x4, hf⟩ := hf
  refine r_iald ha_x4 hi_x4 dX12_fewestFrom_97 ?_
  generalize f_x4 (v1 : Int32).toNatClampNeg = x4 at hf ⊢
  exact r_ireturn rfl dX12_fewestFrom_98 rfl ⟨_, rfl, hf⟩
def F_X12_fewestFrom_20 (l : Launch) (G : GG) (d : Nat) (X20 : Nat → Int32 → Int32 → Int32 → Hp → Prop) (v0 : Nat) (v1 : Int32) (v2 : Int32) (v3 : Int32) (σ : Hp) (K : Int32 → Hp → Prop) : Prop :=
  fI σ v0 12 30 fun x5 =>
  ((x5 : Int32) ≤ (v3 : Int32) →
    fN σ v0 12 33 fun x6 =>
    (0 ≤ (v2 : Int32) →
      F_X12_fewestFrom_91 l G d v0 v1 x6 v1 v2 σ K) ∧
    (¬ 0 ≤ (v2 : Int32) →
      F_X12_fewestFrom_91 l G d v0 v1 x6 v1 0 σ K)) ∧
  (¬ (x5 : Int32) ≤ (v3 : Int32) →
    C_X12_mayBe l G d v0 v1 v3 σ fun r8 σ7 =>
    (r8 = true →
      C_X12_behind l G d v0 v1 v3 σ7 fun r10 σ9 =>
      C_X12_fewestFrom l G d v0 r10 σ9 fun r12 σ11 =>
      ((v2 : Int32) < 0 →
        F_X12_fewestFrom_64 l G d X20 v0 v1 v3 (1 + r12) σ11 K) ∧
      (¬ (v2 : Int32) < 0 →
        ((v2 : Int32) ≤ ((1 + r12) : Int32) →
          F_X12_fewestFrom_70 l G d X20 v0 v1 v3 v2 σ11 K) ∧
        (¬ (v2 : Int32) ≤ ((1 + r12) : Int32) →
          F_X12_fewestFrom_64 l G d X20 v0 v1 v3 (1 + r12) σ11 K))) ∧
    (r8 = false →
      F_X12_fewestFrom_71 l G d X20 v0 v1 v2 v3 σ7 K))
set_option maxRecDepth 100000 in
set_option maxHeartbeats 4000000 in
theorem b_X12_fewestFrom_20 {l : Launch} {G : GG} {d : Nat} {X20 : Nat → Int32 → Int32 → Int32 → Hp → Prop} {v0 : Nat} {v1 : Int32} {v2 : Int32} {v3 : Int32} {σ : Hp} {K : Int32 → Hp → Prop} (hX20 : ∀ v0 v1 v2 v3 σ, X20 v0 v1 v2 v3 σ → Wd l G (d + 1) "CoinsLaidModel" yX12_fewestFrom cX12_fewestFrom 5 (some FieldType.int) 20 [(0, aR (some v0)), (1, aI v1), (2, aI v2), (3, aI v3)] [] σ 0 0 (xM (QI K))) (hf : F_X12_fewestFrom_20 l G d X20 v0 v1 v2 v3 σ K) : Wd l G (d + 1) "CoinsLaidModel" yX12_fewestFrom cX12_fewestFrom 5 (some FieldType.int) 20 [(0, aR (some v0)), (1, aI v1), (2, aI v2), (3, aI v3)] [] σ 0 0 (xM (QI K)) := by
  unfold F_X12_fewestFrom_20 at hf
  refine r_iload_n (j := 3) rfl rfl dX12_fewestFrom_20 ?_
  refine r_aload_n (j := 0) rfl rfl dX12_fewestFrom_21 ?_
  obtain ⟨fs_x5, x5, ha_x5, hv_x5, hf⟩ := hf
  refine r_get (Cn := RX12) (Tt := TX12) (N := 42) (n := 30) rfl uw_X12 (Nat.le_of_ble_eq_true rfl) wd_6_216 ha_x5 hv_x5 dX12_fewestFrom_22 ?_
  refine r_icmpge (x := v3) (y := x5) (tgt := 77) (by decide) dX12_fewestFrom_25 (fun hc => ?_) (fun hc => ?_)
  · replace hf := hf.1 hc
    refine r_aload_n (j := 0) rfl rfl dX12_fewestFrom_77 ?_
    obtain ⟨fs_x6, x6, ha_x6, hv_x6, hf⟩ := hf
    refine r_get (Cn := RX12) (Tt := TX12) (N := 42) (n := 33) rfl uw_X12 (Nat.le_of_ble_eq_true rfl) wd_6_219 ha_x6 hv_x6 dX12_fewestFrom_78 ?_
    refine r_iload_n (j := 1) rfl rfl dX12_fewestFrom_81 ?_
    refine r_iload_n (j := 2) rfl rfl dX12_fewestFrom_82 ?_
    refine r_ifge (x := v2) (tgt := 90) (by decide) dX12_fewestFrom_83 (fun hc => ?_) (fun hc => ?_)
    · replace hf := hf.1 hc
      refine r_iload_n (j := 2) rfl rfl dX12_fewestFrom_90 ?_
      exact r_sub [0, 1] rfl (b_X12_fewestFrom_91 hf)
    · replace hf := hf.2 hc
      refine r_iconst (v := 0) (by decide) dX12_fewestFrom_86 ?_
      refine r_goto (tgt := 91) (by decide) dX12_fewestFrom_87 ?_
      exact r_sub [0, 1] rfl (b_X12_fewestFrom_91 hf)
  · replace hf := hf.2 hc
    refine r_aload_n (j := 0) rfl rfl dX12_fewestFrom_28 ?_
    refine r_iload_n (j := 1) rfl rfl dX12_fewestFrom_29 ?_
    refine r_iload_n (j := 3) rfl rfl dX12_fewestFrom_30 ?_
    try unfold C_X12_mayBe at hf
    obtain ⟨⟨fs_r8, ha_r8⟩, hf⟩ := hf
    refine r_invVZ (t := 12) (As := [aI v1, aI v3]) (dz := d) (mz := 0) (sz := 0) rfl wd_8_30 wd_8_32 wd_p_78 cf_X12_mayBe (Nat.le_refl _) (Nat.zero_le _) (Nat.zero_le _) (cat_ok (Nat.le_of_ble_eq_true rfl)) rfl rfl ha_r8 dX12_fewestFrom_31 hf (fun r8 σ7 hk => ?_)
    replace hf := hk
    clear hk
    refine r_ifneZ (b := r8) (tgt := 40) (by decide) dX12_fewestFrom_34 (fun hc => ?_) (fun hc => ?_)
    · replace hf := hf.1 hc
      refine r_iconst (v := 1) (by decide) dX12_fewestFrom_40 ?_
      refine r_aload_n (j := 0) rfl rfl dX12_fewestFrom_41 ?_
      refine r_aload_n (j := 0) rfl rfl dX12_fewestFrom_42 ?_
      refine r_iload_n (j := 1) rfl rfl dX12_fewestFrom_43 ?_
      refine r_iload_n (j := 3) rfl rfl dX12_fewestFrom_44 ?_
      try unfold C_X12_behind at hf
      obtain ⟨⟨fs_r10, ha_r10⟩, hf⟩ := hf
      refine r_invVI (t := 12) (As := [aI v1, aI v3]) (dz := d) (mz := 0) (sz := 0) rfl wd_8_100 wd_8_102 wd_p_85 cf_X12_behind (Nat.le_refl _) (Nat.zero_le _) (Nat.zero_le _) (cat_ok (Nat.le_of_ble_eq_true rfl)) rfl rfl ha_r10 dX12_fewestFrom_45 hf (fun r10 σ9 hk => ?_)
      replace hf := hk
      clear hk
      try unfold C_X12_fewestFrom at hf
      obtain ⟨⟨fs_r12, ha_r12⟩, hf⟩ := hf
      refine r_invVI (t := 12) (As := [aI r10]) (dz := d) (mz := 0) (sz := 0) rfl wd_8_173 wd_8_175 wd_p_94 cf_X12_fewestFrom (Nat.le_refl _) (Nat.zero_le _) (Nat.zero_le _) (cat_ok (Nat.le_of_ble_eq_true rfl)) rfl rfl ha_r12 dX12_fewestFrom_48 hf (fun r12 σ11 hk => ?_)
      replace hf := hk
      clear hk
      refine r_iadd (x := 1) (y := r12) dX12_fewestFrom_51 ?_
      refine r_istore (L' := [(4, aI (1 + r12)), (0, aR (some v0)), (1, aI v1), (2, aI v2), (3, aI v3)]) rfl (Nat.le_of_ble_eq_true rfl) dX12_fewestFrom_52 ?_
      refine r_iload_n (j := 3) rfl rfl dX12_fewestFrom_54 ?_
      refine r_iflt (x := v2) (tgt := 64) (by decide) dX12_fewestFrom_55 (fun hc => ?_) (fun hc => ?_)
      · replace hf := hf.1 hc
        exact r_sub [1, 2, 4, 0] rfl (b_X12_fewestFrom_64 hX20 hf)
      · replace hf := hf.2 hc
        refine r_iload (j := 0) rfl dX12_fewestFrom_58 ?_
        refine r_iload_n (j := 3) rfl rfl dX12_fewestFrom_60 ?_
        refine r_icmpge (x := (1 + r12)) (y := v2) (tgt := 69) (by decide) dX12_fewestFrom_61 (fun hc => ?_) (fun hc => ?_)
        · replace hf := hf.1 hc
          refine r_iload_n (j := 3) rfl rfl dX12_fewestFrom_69 ?_
          exact r_sub [1, 2, 4] rfl (b_X12_fewestFrom_70 hX20 hf)
        · replace hf := hf.2 hc
          exact r_sub [1, 2, 4, 0] rfl (b_X12_fewestFrom_64 hX20 hf)
    · replace hf := hf.2 hc
      refine r_goto (tgt := 71) (by decide) dX12_fewestFrom_37 ?_
      exact r_sub [0, 1, 2, 3] rfl (b_X12_fewestFrom_71 hX20 hf)
def Z_X12_fewestFrom_20 (l : Launch) (G : GG) (d : Nat) (K : Int32 → Hp → Prop) : Nat → Nat → Int32 → Int32 → Int32 → Hp → Prop
  | 0 => fun _ _ _ _ _ => False
  | n + 1 => fun v0 v1 v2 v3 σ => F_X12_fewestFrom_20 l G d (Z_X12_fewestFrom_20 l G d K n) v0 v1 v2 v3 σ K
theorem z_X12_fewestFrom_20 {l : Launch} {G : GG} {d : Nat} {K : Int32 → Hp → Prop} : ∀ (n : Nat) v0 v1 v2 v3 σ, Z_X12_fewestFrom_20 l G d K n v0 v1 v2 v3 σ → Wd l G (d + 1) "CoinsLaidModel" yX12_fewestFrom cX12_fewestFrom 5 (some FieldType.int) 20 [(0, aR (some v0)), (1, aI v1), (2, aI v2), (3, aI v3)] [] σ 0 0 (xM (QI K)) := by
  intro n
  induction n with
  | zero => intro v0 v1 v2 v3 σ hf; exact hf.elim
  | succ n ih => intro v0 v1 v2 v3 σ hf; exact b_X12_fewestFrom_20 ih hf
def F_X12_fewestFrom (l : Launch) (G : GG) (d : Nat) (v0 : Nat) (v1 : Int32) (σ : Hp) (K : Int32 → Hp → Prop) : Prop :=
  fN σ v0 12 33 fun x13 =>
  gI σ x13 v1 fun x14 =>
  ((x14 : Int32) < 0 →
    ∃ n, Z_X12_fewestFrom_20 l G d K n v0 v1 (-1) 0 σ) ∧
  (¬ (x14 : Int32) < 0 →
    fN σ v0 12 33 fun x15 =>
    gI σ x15 v1 fun x16 =>
    K x16 σ)
set_option maxRecDepth 100000 in
set_option maxHeartbeats 4000000 in
theorem b_X12_fewestFrom_0 {l : Launch} {G : GG} {d : Nat} {v0 : Nat} {v1 : Int32} {σ : Hp} {K : Int32 → Hp → Prop} (hf : F_X12_fewestFrom l G d v0 v1 σ K) : Wd l G (d + 1) "CoinsLaidModel" yX12_fewestFrom cX12_fewestFrom 5 (some FieldType.int) 0 [(0, aR (some v0)), (1, aI v1)] [] σ 0 0 (xM (QI K)) := by
  unfold F_X12_fewestFrom at hf
  refine r_aload_n (j := 0) rfl rfl dX12_fewestFrom_0 ?_
  obtain ⟨fs_x13, x13, ha_x13, hv_x13, hf⟩ := hf
  refine r_get (Cn := RX12) (Tt := TX12) (N := 42) (n := 33) rfl uw_X12 (Nat.le_of_ble_eq_true rfl) wd_6_219 ha_x13 hv_x13 dX12_fewestFrom_1 ?_
  refine r_iload_n (j := 1) rfl rfl dX12_fewestFrom_4 ?_
  obtain ⟨N_x14, f_x14, ha_x14, hi_x14, hf⟩ := hf
  refine r_iald ha_x14 hi_x14 dX12_fewestFrom_5 ?_
  generalize f_x14 (v1 : Int32).toNatClampNeg = x14 at hf ⊢
  refine r_iflt (x := x14) (tgt := 16) (by decide) dX12_fewestFrom_6 (fun hc => ?_) (fun hc => ?_)
  · replace hf := hf.1 hc
    refine r_iconst (v := (-1)) (by decide) dX12_fewestFrom_16 ?_
    refine r_istore_n (L' := [(2, aI (-1)), (0, aR (some v0)), (1, aI v1)]) rfl rfl (Nat.le_of_ble_eq_true rfl) dX12_fewestFrom_17 ?_
    refine r_iconst (v := 0) (by decide) dX12_fewestFrom_18 ?_
    refine r_istore_n (L' := [(3, aI 0), (2, aI (-1)), (0, aR (some v0)), (1, aI v1)]) rfl rfl (Nat.le_of_ble_eq_true rfl) dX12_fewestFrom_19 ?_
    obtain ⟨n, hf⟩ := hf
    exact r_sub [2, 3, 1, 0] rfl (z_X12_fewestFrom_20 n _ _ _ _ _ hf)
  · replace hf := hf.2 hc
    refine r_aload_n (j := 0) rfl rfl dX12_fewestFrom_9 ?_
    obtain ⟨fs_x15, x15, ha_x15, hv_x15, hf⟩ := hf
    refine r_get (Cn := RX12) (Tt := TX12) (N := 42) (n := 33) rfl uw_X12 (Nat.le_of_ble_eq_true rfl) wd_6_219 ha_x15 hv_x15 dX12_fewestFrom_10 ?_
    refine r_iload_n (j := 1) rfl rfl dX12_fewestFrom_13 ?_
    obtain ⟨N_x16, f_x16, ha_x16, hi_x16, hf⟩ := hf
    refine r_iald ha_x16 hi_x16 dX12_fewestFrom_14 ?_
    generalize f_x16 (v1 : Int32).toNatClampNeg = x16 at hf ⊢
    exact r_ireturn rfl dX12_fewestFrom_15 rfl ⟨_, rfl, hf⟩
theorem m_X12_fewestFrom {l : Launch} {G : GG} {d : Nat} {v0 : Nat} {v1 : Int32} {σ : Hp} {K : Int32 → Hp → Prop} (hr : rv σ v0 12) (hf : F_X12_fewestFrom l G d v0 v1 σ K) : C_X12_fewestFrom l G (d + 1) v0 v1 σ K := ⟨hr, Sp.of (by decide) (Nat.le_of_ble_eq_true rfl) (b_X12_fewestFrom_0 hf) rfl⟩
def F_X12_mostFrom_67 (l : Launch) (G : GG) (d : Nat) (X20 : Nat → Int32 → Int32 → Int32 → Hp → Prop) (v0 : Nat) (v1 : Int32) (v2 : Int32) (v3 : Int32) (σ : Hp) (K : Int32 → Hp → Prop) : Prop :=
  X20 v0 v1 v2 (v3 + 1) σ
set_option maxRecDepth 100000 in
set_option maxHeartbeats 4000000 in
theorem b_X12_mostFrom_67 {l : Launch} {G : GG} {d : Nat} {X20 : Nat → Int32 → Int32 → Int32 → Hp → Prop} {v0 : Nat} {v1 : Int32} {v2 : Int32} {v3 : Int32} {σ : Hp} {K : Int32 → Hp → Prop} (hX20 : ∀ v0 v1 v2 v3 σ, X20 v0 v1 v2 v3 σ → Wd l G (d + 1) "CoinsLaidModel" yX12_mostFrom cX12_mostFrom 5 (some FieldType.int) 20 [(0, aR (some v0)), (1, aI v1), (2, aI v2), (3, aI v3)] [] σ 0 0 (xM (QI K))) (hf : F_X12_mostFrom_67 l G d X20 v0 v1 v2 v3 σ K) : Wd l G (d + 1) "CoinsLaidModel" yX12_mostFrom cX12_mostFrom 5 (some FieldType.int) 67 [(0, aR (some v0)), (1, aI v1), (2, aI v2), (3, aI v3)] [] σ 0 0 (xM (QI K)) := by
  unfold F_X12_mostFrom_67 at hf
  refine r_iinc (j := 3) (w := (v3 + 1)) (L' := [(3, aI (v3 + 1)), (0, aR (some v0)), (1, aI v1), (2, aI v2)]) rfl (by rfl) rfl (Nat.le_of_ble_eq_true rfl) dX12_mostFrom_67 ?_
  refine r_goto (tgt := 20) (by decide) dX12_mostFrom_70 ?_
  exact r_sub [1, 2, 3, 0] rfl (hX20 _ _ _ _ _ hf)
def F_X12_mostFrom_66 (l : Launch) (G : GG) (d : Nat) (X20 : Nat → Int32 → Int32 → Int32 → Hp → Prop) (v0 : Nat) (v1 : Int32) (v3 : Int32) (s0 : Int32) (σ : Hp) (K : Int32 → Hp → Prop) : Prop :=
  F_X12_mostFrom_67 l G d X20 v0 v1 s0 v3 σ K
set_option maxRecDepth 100000 in
set_option maxHeartbeats 4000000 in
theorem b_X12_mostFrom_66 {l : Launch} {G : GG} {d : Nat} {X20 : Nat → Int32 → Int32 → Int32 → Hp → Prop} {v0 : Nat} {v1 : Int32} {v3 : Int32} {s0 : Int32} {σ : Hp} {K : Int32 → Hp → Prop} (hX20 : ∀ v0 v1 v2 v3 σ, X20 v0 v1 v2 v3 σ → Wd l G (d + 1) "CoinsLaidModel" yX12_mostFrom cX12_mostFrom 5 (some FieldType.int) 20 [(0, aR (some v0)), (1, aI v1), (2, aI v2), (3, aI v3)] [] σ 0 0 (xM (QI K))) (hf : F_X12_mostFrom_66 l G d X20 v0 v1 v3 s0 σ K) : Wd l G (d + 1) "CoinsLaidModel" yX12_mostFrom cX12_mostFrom 5 (some FieldType.int) 66 [(0, aR (some v0)), (1, aI v1), (3, aI v3)] [aI s0] σ 0 0 (xM (QI K)) := by
  unfold F_X12_mostFrom_66 at hf
  refine r_istore_n (L' := [(2, aI s0), (0, aR (some v0)), (1, aI v1), (3, aI v3)]) rfl rfl (Nat.le_of_ble_eq_true rfl) dX12_mostFrom_66 ?_
  exact r_sub [1, 2, 0, 3] rfl (b_X12_mostFrom_67 hX20 hf)
def F_X12_mostFrom_20 (l : Launch) (G : GG) (d : Nat) (X20 : Nat → Int32 → Int32 → Int32 → Hp → Prop) (v0 : Nat) (v1 : Int32) (v2 : Int32) (v3 : Int32) (σ : Hp) (K : Int32 → Hp → Prop) : Prop :=
  fI σ v0 12 30 fun x1 =>
  ((x1 : Int32) ≤ (v3 : Int32) →
    fN σ v0 12 34 fun x2 =>
    sI σ x2 v1 v2 fun σ3 =>
    K v2 σ3) ∧
  (¬ (x1 : Int32) ≤ (v3 : Int32) →
    C_X12_mayBe l G d v0 v1 v3 σ fun r6 σ5 =>
    (r6 = true →
      C_X12_behind l G d v0 v1 v3 σ5 fun r8 σ7 =>
      C_X12_mostFrom l G d v0 r8 σ7 fun r10 σ9 =>
      (((1 + r10) : Int32) ≤ (v2 : Int32) →
        F_X12_mostFrom_66 l G d X20 v0 v1 v3 v2 σ9 K) ∧
      (¬ ((1 + r10) : Int32) ≤ (v2 : Int32) →
        F_X12_mostFrom_66 l G d X20 v0 v1 v3 (1 + r10) σ9 K)) ∧
    (r6 = false →
      F_X12_mostFrom_67 l G d X20 v0 v1 v2 v3 σ5 K))
set_option maxRecDepth 100000 in
set_option maxHeartbeats 4000000 in
theorem b_X12_mostFrom_20 {l : Launch} {G : GG} {d : Nat} {X20 : Nat → Int32 → Int32 → Int32 → Hp → Prop} {v0 : Nat} {v1 : Int32} {v2 : Int32} {v3 : Int32} {σ : Hp} {K : Int32 → Hp → Prop} (hX20 : ∀ v0 v1 v2 v3 σ, X20 v0 v1 v2 v3 σ → Wd l G (d + 1) "CoinsLaidModel" yX12_mostFrom cX12_mostFrom 5 (some FieldType.int) 20 [(0, aR (some v0)), (1, aI v1), (2, aI v2), (3, aI v3)] [] σ 0 0 (xM (QI K))) (hf : F_X12_mostFrom_20 l G d X20 v0 v1 v2 v3 σ K) : Wd l G (d + 1) "CoinsLaidModel" yX12_mostFrom cX12_mostFrom 5 (some FieldType.int) 20 [(0, aR (some v0)), (1, aI v1), (2, aI v2), (3, aI v3)] [] σ 0 0 (xM (QI K)) := by
  unfold F_X12_mostFrom_20 at hf
  refine r_iload_n (j := 3) rfl rfl dX12_mostFrom_20 ?_
  refine r_aload_n (j := 0) rfl rfl dX12_mostFrom_21 ?_
  obtain ⟨fs_x1, x1, ha_x1, hv_x1, hf⟩ := hf
  refine r_get (Cn := RX12) (Tt := TX12) (N := 42) (n := 30) rfl uw_X12 (Nat.le_of_ble_eq_true rfl) wd_6_216 ha_x1 hv_x1 dX12_mostFrom_22 ?_
  refine r_icmpge (x := v3) (y := x1) (tgt := 73) (by decide) dX12_mostFrom_25 (fun hc => ?_) (fun hc => ?_)
  · replace hf := hf.1 hc
    refine r_aload_n (j := 0) rfl rfl dX12_mostFrom_73 ?_
    obtain ⟨fs_x2, x2, ha_x2, hv_x2, hf⟩ := hf
    refine r_get (Cn := RX12) (Tt := TX12) (N := 42) (n := 34) rfl uw_X12 (Nat.le_of_ble_eq_true rfl) wd_6_220 ha_x2 hv_x2 dX12_mostFrom_74 ?_
    refine r_iload_n (j := 1) rfl rfl dX12_mostFrom_77 ?_
    refine r_iload_n (j := 2) rfl rfl dX12_mostFrom_78 ?_
    obtain ⟨N_x4, f_x4, ha_x4, hi_x4, hf⟩ := hf
    generalize hσ3 : hset σ x2 (iA N_x4 (up_ f_x4 (v1 : Int32).toNatClampNeg v2)) = σ3 at hf
    refine r_iast (f := f_x4) (x := v2) ha_x4 hi_x4 dX12_mostFrom_79 ?_
    refine Eq.mpr (congrArg (fun z => Wd _ _ _ _ _ _ _ _ _ _ _ z _ _ _) hσ3) ?_
    refine r_iload_n (j := 2) rfl rfl dX12_mostFrom_80 ?_
    exact r_ireturn rfl dX12_mostFrom_81 rfl ⟨_, rfl, hf⟩
  · replace hf := hf.2 hc
    refine r_aload_n (j := 0) rfl rfl dX12_mostFrom_28 ?_
    refine r_iload_n (j := 1) rfl rfl dX12_mostFrom_29 ?_
    refine r_iload_n (j := 3) rfl rfl dX12_mostFrom_30 ?_
    try unfold C_X12_mayBe at hf
    obtain ⟨⟨fs_r6, ha_r6⟩, hf⟩ := hf
    refine r_invVZ (t := 12) (As := [aI v1, aI v3]) (dz := d) (mz := 0) (sz := 0) rfl wd_8_30 wd_8_32 wd_p_78 cf_X12_mayBe (Nat.le_refl _) (Nat.zero_le _) (Nat.zero_le _) (cat_ok (Nat.le_of_ble_eq_true rfl)) rfl rfl ha_r6 dX12_mostFrom_31 hf (fun r6 σ5 hk => ?_)
    replace hf := hk
    clear hk
    refine r_ifneZ (b := r6) (tgt := 40) (by decide) dX12_mostFrom_34 (fun hc => ?_) (fun hc => ?_)
    · replace hf := hf.1 hc
      refine r_iconst (v := 1) (by decide) dX12_mostFrom_40 ?_
      refine r_aload_n (j := 0) rfl rfl dX12_mostFrom_41 ?_
      refine r_aload_n (j := 0) rfl rfl dX12_mostFrom_42 ?_
      refine r_iload_n (j := 1) rfl rfl dX12_mostFrom_43 ?_
      refine r_iload_n (j := 3) rfl rfl dX12_mostFrom_44 ?_
      try unfold C_X12_behind at hf
      obtain ⟨⟨fs_r8, ha_r8⟩, hf⟩ := hf
      refine r_invVI (t := 12) (As := [aI v1, aI v3]) (dz := d) (mz := 0) (sz := 0) rfl wd_8_100 wd_8_102 wd_p_85 cf_X12_behind (Nat.le_refl _) (Nat.zero_le _) (Nat.zero_le _) (cat_ok (Nat.le_of_ble_eq_true rfl)) rfl rfl ha_r8 dX12_mostFrom_45 hf (fun r8 σ7 hk => ?_)
      replace hf := hk
      clear hk
      try unfold C_X12_mostFrom at hf
      obtain ⟨⟨fs_r10, ha_r10⟩, hf⟩ := hf
      refine r_invVI (t := 12) (As := [aI r8]) (dz := d) (mz := 0) (sz := 0) rfl wd_8_181 wd_8_183 wd_p_95 cf_X12_mostFrom (Nat.le_refl _) (Nat.zero_le _) (Nat.zero_le _) (cat_ok (Nat.le_of_ble_eq_true rfl)) rfl rfl ha_r10 dX12_mostFrom_48 hf (fun r10 σ9 hk => ?_)
      replace hf := hk
      clear hk
      refine r_iadd (x := 1) (y := r10) dX12_mostFrom_51 ?_
      refine r_istore (L' := [(4, aI (1 + r10)), (0, aR (some v0)), (1, aI v1), (2, aI v2), (3, aI v3)]) rfl (Nat.le_of_ble_eq_true rfl) dX12_mostFrom_52 ?_
      refine r_iload (j := 0) rfl dX12_mostFrom_54 ?_
      refine r_iload_n (j := 3) rfl rfl dX12_mostFrom_56 ?_
      refine r_icmple (x := (1 + r10)) (y := v2) (tgt := 65) (by decide) dX12_mostFrom_57 (fun hc => ?_) (fun hc => ?_)
      · replace hf := hf.1 hc
        refine r_iload_n (j := 3) rfl rfl dX12_mostFrom_65 ?_
        exact r_sub [1, 2, 4] rfl (b_X12_mostFrom_66 hX20 hf)
      · replace hf := hf.2 hc
        refine r_iload (j := 0) rfl dX12_mostFrom_60 ?_
        refine r_goto (tgt := 66) (by decide) dX12_mostFrom_62 ?_
        exact r_sub [1, 2, 4] rfl (b_X12_mostFrom_66 hX20 hf)
    · replace hf := hf.2 hc
      refine r_goto (tgt := 67) (by decide) dX12_mostFrom_37 ?_
      exact r_sub [0, 1, 2, 3] rfl (b_X12_mostFrom_67 hX20 hf)
def Z_X12_mostFrom_20 (l : Launch) (G : GG) (d : Nat) (K : Int32 → Hp → Prop) : Nat → Nat → Int32 → Int32 → Int32 → Hp → Prop
  | 0 => fun _ _ _ _ _ => False
  | n + 1 => fun v0 v1 v2 v3 σ => F_X12_mostFrom_20 l G d (Z_X12_mostFrom_20 l G d K n) v0 v1 v2 v3 σ K
theorem z_X12_mostFrom_20 {l : Launch} {G : GG} {d : Nat} {K : Int32 → Hp → Prop} : ∀ (n : Nat) v0 v1 v2 v3 σ, Z_X12_mostFrom_20 l G d K n v0 v1 v2 v3 σ → Wd l G (d + 1) "CoinsLaidModel" yX12_mostFrom cX12_mostFrom 5 (some FieldType.int) 20 [(0, aR (some v0)), (1, aI v1), (2, aI v2), (3, aI v3)] [] σ 0 0 (xM (QI K)) := by
  intro n
  induction n with
  | zero => intro v0 v1 v2 v3 σ hf; exact hf.elim
  | succ n ih => intro v0 v1 v2 v3 σ hf; exact b_X12_mostFrom_20 ih hf
def F_X12_mostFrom (l : Launch) (G : GG) (d : Nat) (v0 : Nat) (v1 : Int32) (σ : Hp) (K : Int32 → Hp → Prop) : Prop :=
  fN σ v0 12 34 fun x11 =>
  gI σ x11 v1 fun x12 =>
  ((x12 : Int32) < 0 →
    ∃ n, Z_X12_mostFrom_20 l G d K n v0 v1 0 0 σ) ∧
  (¬ (x12 : Int32) < 0 →
    fN σ v0 12 34 fun x13 =>
    gI σ x13 v1 fun x14 =>
    K x14 σ)
set_option maxRecDepth 100000 in
set_option maxHeartbeats 4000000 in
theorem b_X12_mostFrom_0 {l : Launch} {G : GG} {d : Nat} {v0 : Nat} {v1 : Int32} {σ : Hp} {K : Int32 → Hp → Prop} (hf : F_X12_mostFrom l G d v0 v1 σ K) : Wd l G (d + 1) "CoinsLaidModel" yX12_mostFrom cX12_mostFrom 5 (some FieldType.int) 0 [(0, aR (some v0)), (1, aI v1)] [] σ 0 0 (xM (QI K)) := by
  unfold F_X12_mostFrom at hf
  refine r_aload_n (j := 0) rfl rfl dX12_mostFrom_0 ?_
  obtain ⟨fs_x11, x11, ha_x11, hv_x11, hf⟩ := hf
  refine r_get (Cn := RX12) (Tt := TX12) (N := 42) (n := 34) rfl uw_X12 (Nat.le_of_ble_eq_true rfl) wd_6_220 ha_x11 hv_x11 dX12_mostFrom_1 ?_
  refine r_iload_n (j := 1) rfl rfl dX12_mostFrom_4 ?_
  obtain ⟨N_x12, f_x12, ha_x12, hi_x12, hf⟩ := hf
  refine r_iald ha_x12 hi_x12 dX12_mostFrom_5 ?_
  generalize f_x12 (v1 : Int32).toNatClampNeg = x12 at hf ⊢
  refine r_iflt (x := x12) (tgt := 16) (by decide) dX12_mostFrom_6 (fun hc => ?_) (fun hc => ?_)
  · replace hf := hf.1 hc
    refine r_iconst (v := 0) (by decide) dX12_mostFrom_16 ?_
    refine r_istore_n (L' := [(2, aI 0), (0, aR (some v0)), (1, aI v1)]) rfl rfl (Nat.le_of_ble_eq_true rfl) dX12_mostFrom_17 ?_
    refine r_iconst (v := 0) (by decide) dX12_mostFrom_18 ?_
    refine r_istore_n (L' := [(3, aI 0), (2, aI 0), (0, aR (some v0)), (1, aI v1)]) rfl rfl (Nat.le_of_ble_eq_true rfl) dX12_mostFrom_19 ?_
    obtain ⟨n, hf⟩ := hf
    exact r_sub [2, 3, 1, 0] rfl (z_X12_mostFrom_20 n _ _ _ _ _ hf)
  · replace hf := hf.2 hc
    refine r_aload_n (j := 0) rfl rfl dX12_mostFrom_9 ?_
    obtain ⟨fs_x13, x13, ha_x13, hv_x13, hf⟩ := hf
    refine r_get (Cn := RX12) (Tt := TX12) (N := 42) (n := 34) rfl uw_X12 (Nat.le_of_ble_eq_true rfl) wd_6_220 ha_x13 hv_x13 dX12_mostFrom_10 ?_
    refine r_iload_n (j := 1) rfl rfl dX12_mostFrom_13 ?_
    obtain ⟨N_x14, f_x14, ha_x14, hi_x14, hf⟩ := hf
    refine r_iald ha_x14 hi_x14 dX12_mostFrom_14 ?_
    generalize f_x14 (v1 : Int32).toNatClampNeg = x14 at hf ⊢
    exact r_ireturn rfl dX12_mostFrom_15 rfl ⟨_, rfl, hf⟩
theorem m_X12_mostFrom {l : Launch} {G : GG} {d : Nat} {v0 : Nat} {v1 : Int32} {σ : Hp} {K : Int32 → Hp → Prop} (hr : rv σ v0 12) (hf : F_X12_mostFrom l G d v0 v1 σ K) : C_X12_mostFrom l G (d + 1) v0 v1 σ K := ⟨hr, Sp.of (by decide) (Nat.le_of_ble_eq_true rfl) (b_X12_mostFrom_0 hf) rfl⟩
def F_X12_lotFrom_68 (l : Launch) (G : GG) (d : Nat) (X24 : Nat → Int32 → Int64 → Int32 → Int32 → Hp → Prop) (v0 : Nat) (v1 : Int32) (v2 : Int64) (v4 : Int32) (v5 : Int32) (σ : Hp) (K : Int32 → Hp → Prop) : Prop :=
  X24 v0 v1 v2 v4 (v5 + 1) σ
set_option maxRecDepth 100000 in
set_option maxHeartbeats 4000000 in
theorem b_X12_lotFrom_68 {l : Launch} {G : GG} {d : Nat} {X24 : Nat → Int32 → Int64 → Int32 → Int32 → Hp → Prop} {v0 : Nat} {v1 : Int32} {v2 : Int64} {v4 : Int32} {v5 : Int32} {σ : Hp} {K : Int32 → Hp → Prop} (hX24 : ∀ v0 v1 v2 v4 v5 σ, X24 v0 v1 v2 v4 v5 σ → Wd l G (d + 1) "CoinsLaidModel" yX12_lotFrom cX12_lotFrom 6 (some FieldType.int) 24 [(0, aR (some v0)), (1, aI v1), (2, aJ v2), (4, aI v4), (5, aI v5)] [] σ 0 0 (xM (QI K))) (hf : F_X12_lotFrom_68 l G d X24 v0 v1 v2 v4 v5 σ K) : Wd l G (d + 1) "CoinsLaidModel" yX12_lotFrom cX12_lotFrom 6 (some FieldType.int) 68 [(0, aR (some v0)), (1, aI v1), (2, aJ v2), (4, aI v4), (5, aI v5)] [] σ 0 0 (xM (QI K)) := by
  unfold F_X12_lotFrom_68 at hf
  refine r_iinc (j := 4) (w := (v5 + 1)) (L' := [(5, aI (v5 + 1)), (0, aR (some v0)), (1, aI v1), (2, aJ v2), (4, aI v4)]) rfl (by rfl) rfl (Nat.le_of_ble_eq_true rfl) dX12_lotFrom_68 ?_
  refine r_goto (tgt := 24) (by decide) dX12_lotFrom_71 ?_
  exact r_sub [1, 2, 3, 4, 0] rfl (hX24 _ _ _ _ _ _ hf)
def F_X12_lotFrom_94 (l : Launch) (G : GG) (d : Nat) (v0 : Nat) (v1 : Int32) (s0 : Nat) (s1 : Int32) (s2 : Int32) (σ : Hp) (K : Int32 → Hp → Prop) : Prop :=
  sI σ s0 s1 s2 fun σ1 =>
  fN σ1 v0 12 35 fun x3 =>
  gI σ1 x3 v1 fun x4 =>
  K x4 σ1
set_option maxRecDepth 100000 in
set_option maxHeartbeats 4000000 in
theorem b_X12_lotFrom_94 {l : Launch} {G : GG} {d : Nat} {v0 : Nat} {v1 : Int32} {s0 : Nat} {s1 : Int32} {s2 : Int32} {σ : Hp} {K : Int32 → Hp → Prop} (hf : F_X12_lotFrom_94 l G d v0 v1 s0 s1 s2 σ K) : Wd l G (d + 1) "CoinsLaidModel" yX12_lotFrom cX12_lotFrom 6 (some FieldType.int) 94 [(0, aR (some v0)), (1, aI v1)] [aI s2, aI s1, aR (some s0)] σ 0 0 (xM (QI K)) := by
  unfold F_X12_lotFrom_94 at hf
  obtain ⟨N_x2, f_x2, ha_x2, hi_x2, hf⟩ := hf
  generalize hσ1 : hset σ s0 (iA N_x2 (up_ f_x2 (s1 : Int32).toNatClampNeg s2)) = σ1 at hf
  refine r_iast (f := f_x2) (x := s2) ha_x2 hi_x2 dX12_lotFrom_94 ?_
  refine Eq.mpr (congrArg (fun z => Wd _ _ _ _ _ _ _ _ _ _ _ z _ _ _) hσ1) ?_
  refine r_aload_n (j := 0) rfl rfl dX12_lotFrom_95 ?_
  obtain ⟨fs_x3, x3, ha_x3, hv_x3, hf⟩ := hf
  refine r_get (Cn := RX12) (Tt := TX12) (N := 42) (n := 35) rfl uw_X12 (Nat.le_of_ble_eq_true rfl) wd_6_221 ha_x3 hv_x3 dX12_lotFrom_96 ?_
  refine r_iload_n (j := 1) rfl rfl dX12_lotFrom_99 ?_
  obtain ⟨N_x4, f_x4, ha_x4, hi_x4, hf⟩ := hf
  refine r_iald ha_x4 hi_x4 dX12_lotFrom_100 ?_
  generalize f_x4 (v1 : Int32).toNatClampNeg = x4 at hf ⊢
  exact r_ireturn rfl dX12_lotFrom_101 rfl ⟨_, rfl, hf⟩
def F_X12_lotFrom_24 (l : Launch) (G : GG) (d : Nat) (X24 : Nat → Int32 → Int64 → Int32 → Int32 → Hp → Prop) (v0 : Nat) (v1 : Int32) (v2 : Int64) (v4 : Int32) (v5 : Int32) (σ : Hp) (K : Int32 → Hp → Prop) : Prop :=
  fI σ v0 12 30 fun x5 =>
  ((x5 : Int32) ≤ (v5 : Int32) →
    fN σ v0 12 35 fun x6 =>
    (¬ (v4 : Int32) = 0 →
      ¬ (((v4 : Int32).toInt64) : Int64) = 0 ∧
      F_X12_lotFrom_94 l G d v0 v1 x6 v1 (((v2 / ((v4 : Int32).toInt64)) : Int64).toInt32) σ K) ∧
    ((v4 : Int32) = 0 →
      F_X12_lotFrom_94 l G d v0 v1 x6 v1 0 σ K)) ∧
  (¬ (x5 : Int32) ≤ (v5 : Int32) →
    C_X12_mayBe l G d v0 v1 v5 σ fun r8 σ7 =>
    (r8 = true →
      C_X12_behind l G d v0 v1 v5 σ7 fun r10 σ9 =>
      C_X12_lotFrom l G d v0 r10 σ9 fun r12 σ11 =>
      F_X12_lotFrom_68 l G d X24 v0 v1 (v2 + (((1000000 + r12) : Int32).toInt64)) (v4 + 1) v5 σ11 K) ∧
    (r8 = false →
      F_X12_lotFrom_68 l G d X24 v0 v1 v2 v4 v5 σ7 K))
set_option maxRecDepth 100000 in
set_option maxHeartbeats 4000000 in
theorem b_X12_lotFrom_24 {l : Launch} {G : GG} {d : Nat} {X24 : Nat → Int32 → Int64 → Int32 → Int32 → Hp → Prop} {v0 : Nat} {v1 : Int32} {v2 : Int64} {v4 : Int32} {v5 : Int32} {σ : Hp} {K : Int32 → Hp → Prop} (hX24 : ∀ v0 v1 v2 v4 v5 σ, X24 v0 v1 v2 v4 v5 σ → Wd l G (d + 1) "CoinsLaidModel" yX12_lotFrom cX12_lotFrom 6 (some FieldType.int) 24 [(0, aR (some v0)), (1, aI v1), (2, aJ v2), (4, aI v4), (5, aI v5)] [] σ 0 0 (xM (QI K))) (hf : F_X12_lotFrom_24 l G d X24 v0 v1 v2 v4 v5 σ K) : Wd l G (d + 1) "CoinsLaidModel" yX12_lotFrom cX12_lotFrom 6 (some FieldType.int) 24 [(0, aR (some v0)), (1, aI v1), (2, aJ v2), (4, aI v4), (5, aI v5)] [] σ 0 0 (xM (QI K)) := by
  unfold F_X12_lotFrom_24 at hf
  refine r_iload (j := 4) rfl dX12_lotFrom_24 ?_
  refine r_aload_n (j := 0) rfl rfl dX12_lotFrom_26 ?_
  obtain ⟨fs_x5, x5, ha_x5, hv_x5, hf⟩ := hf
  refine r_get (Cn := RX12) (Tt := TX12) (N := 42) (n := 30) rfl uw_X12 (Nat.le_of_ble_eq_true rfl) wd_6_216 ha_x5 hv_x5 dX12_lotFrom_27 ?_
  refine r_icmpge (x := v5) (y := x5) (tgt := 74) (by decide) dX12_lotFrom_30 (fun hc => ?_) (fun hc => ?_)
  · replace hf := hf.1 hc
    refine r_aload_n (j := 0) rfl rfl dX12_lotFrom_74 ?_
    obtain ⟨fs_x6, x6, ha_x6, hv_x6, hf⟩ := hf
    refine r_get (Cn := RX12) (Tt := TX12) (N := 42) (n := 35) rfl uw_X12 (Nat.le_of_ble_eq_true rfl) wd_6_221 ha_x6 hv_x6 dX12_lotFrom_75 ?_
    refine r_iload_n (j := 1) rfl rfl dX12_lotFrom_78 ?_
    refine r_iload (j := 3) rfl dX12_lotFrom_79 ?_
    refine r_ifne (x := v4) (tgt := 88) (by decide) dX12_lotFrom_81 (fun hc => ?_) (fun hc => ?_)
    · replace hf := hf.1 hc
      refine r_lload_n (j := 2) rfl rfl dX12_lotFrom_88 ?_
      refine r_iload (j := 3) rfl dX12_lotFrom_89 ?_
      refine r_i2l (x := v4) dX12_lotFrom_91 ?_
      obtain ⟨hne, hf⟩ := hf
      refine r_ldiv hne dX12_lotFrom_92 ?_
      refine r_l2i (x := (v2 / ((v4 : Int32).toInt64))) dX12_lotFrom_93 ?_
      exact r_sub [0, 1] rfl (b_X12_lotFrom_94 hf)
    · replace hf := hf.2 hc
      refine r_iconst (v := 0) (by decide) dX12_lotFrom_84 ?_
      refine r_goto (tgt := 94) (by decide) dX12_lotFrom_85 ?_
      exact r_sub [0, 1] rfl (b_X12_lotFrom_94 hf)
  · replace hf := hf.2 hc
    refine r_aload_n (j := 0) rfl rfl dX12_lotFrom_33 ?_
    refine r_iload_n (j := 1) rfl rfl dX12_lotFrom_34 ?_
    refine r_iload (j := 4) rfl dX12_lotFrom_35 ?_
    try unfold C_X12_mayBe at hf
    obtain ⟨⟨fs_r8, ha_r8⟩, hf⟩ := hf
    refine r_invVZ (t := 12) (As := [aI v1, aI v5]) (dz := d) (mz := 0) (sz := 0) rfl wd_8_30 wd_8_32 wd_p_78 cf_X12_mayBe (Nat.le_refl _) (Nat.zero_le _) (Nat.zero_le _) (cat_ok (Nat.le_of_ble_eq_true rfl)) rfl rfl ha_r8 dX12_lotFrom_37 hf (fun r8 σ7 hk => ?_)
    replace hf := hk
    clear hk
    refine r_ifneZ (b := r8) (tgt := 46) (by decide) dX12_lotFrom_40 (fun hc => ?_) (fun hc => ?_)
    · replace hf := hf.1 hc
      refine r_lload_n (j := 2) rfl rfl dX12_lotFrom_46 ?_
      refine r_ldcw wd_8_193 dX12_lotFrom_47 ?_
      refine r_aload_n (j := 0) rfl rfl dX12_lotFrom_50 ?_
      refine r_aload_n (j := 0) rfl rfl dX12_lotFrom_51 ?_
      refine r_iload_n (j := 1) rfl rfl dX12_lotFrom_52 ?_
      refine r_iload (j := 4) rfl dX12_lotFrom_53 ?_
      try unfold C_X12_behind at hf
      obtain ⟨⟨fs_r10, ha_r10⟩, hf⟩ := hf
      refine r_invVI (t := 12) (As := [aI v1, aI v5]) (dz := d) (mz := 0) (sz := 0) rfl wd_8_100 wd_8_102 wd_p_85 cf_X12_behind (Nat.le_refl _) (Nat.zero_le _) (Nat.zero_le _) (cat_ok (Nat.le_of_ble_eq_true rfl)) rfl rfl ha_r10 dX12_lotFrom_55 hf (fun r10 σ9 hk => ?_)
      replace hf := hk
      clear hk
      try unfold C_X12_lotFrom at hf
      obtain ⟨⟨fs_r12, ha_r12⟩, hf⟩ := hf
      refine r_invVI (t := 12) (As := [aI r10]) (dz := d) (mz := 0) (sz := 0) rfl wd_8_189 wd_8_191 wd_p_96 cf_X12_lotFrom (Nat.le_refl _) (Nat.zero_le _) (Nat.zero_le _) (cat_ok (Nat.le_of_ble_eq_true rfl)) rfl rfl ha_r12 dX12_lotFrom_58 hf (fun r12 σ11 hk => ?_)
      replace hf := hk
      clear hk
      refine r_iadd (x := 1000000) (y := r12) dX12_lotFrom_61 ?_
      refine r_i2l (x := (1000000 + r12)) dX12_lotFrom_62 ?_
      refine r_ladd (x := v2) (y := (((1000000 + r12) : Int32).toInt64)) dX12_lotFrom_63 ?_
      refine r_lstore_n (L' := [(2, aJ (v2 + (((1000000 + r12) : Int32).toInt64))), (0, aR (some v0)), (1, aI v1), (4, aI v4), (5, aI v5)]) rfl rfl (Nat.le_of_ble_eq_true rfl) dX12_lotFrom_64 ?_
      refine r_iinc (j := 3) (w := (v4 + 1)) (L' := [(4, aI (v4 + 1)), (2, aJ (v2 + (((1000000 + r12) : Int32).toInt64))), (0, aR (some v0)), (1, aI v1), (5, aI v5)]) rfl (by rfl) rfl (Nat.le_of_ble_eq_true rfl) dX12_lotFrom_65 ?_
      exact r_sub [2, 3, 1, 0, 4] rfl (b_X12_lotFrom_68 hX24 hf)
    · replace hf := hf.2 hc
      refine r_goto (tgt := 68) (by decide) dX12_lotFrom_43 ?_
      exact r_sub [0, 1, 2, 3, 4] rfl (b_X12_lotFrom_68 hX24 hf)
def Z_X12_lotFrom_24 (l : Launch) (G : GG) (d : Nat) (K : Int32 → Hp → Prop) : Nat → Nat → Int32 → Int64 → Int32 → Int32 → Hp → Prop
  | 0 => fun _ _ _ _ _ _ => False
  | n + 1 => fun v0 v1 v2 v4 v5 σ => F_X12_lotFrom_24 l G d (Z_X12_lotFrom_24 l G d K n) v0 v1 v2 v4 v5 σ K
theorem z_X12_lotFrom_24 {l : Launch} {G : GG} {d : Nat} {K : Int32 → Hp → Prop} : ∀ (n : Nat) v0 v1 v2 v4 v5 σ, Z_X12_lotFrom_24 l G d K n v0 v1 v2 v4 v5 σ → Wd l G (d + 1) "CoinsLaidModel" yX12_lotFrom cX12_lotFrom 6 (some FieldType.int) 24 [(0, aR (some v0)), (1, aI v1), (2, aJ v2), (4, aI v4), (5, aI v5)] [] σ 0 0 (xM (QI K)) := by
  intro n
  induction n with
  | zero => intro v0 v1 v2 v4 v5 σ hf; exact hf.elim
  | succ n ih => intro v0 v1 v2 v4 v5 σ hf; exact b_X12_lotFrom_24 ih hf
def F_X12_lotFrom (l : Launch) (G : GG) (d : Nat) (v0 : Nat) (v1 : Int32) (σ : Hp) (K : Int32 → Hp → Prop) : Prop :=
  fN σ v0 12 35 fun x13 =>
  gI σ x13 v1 fun x14 =>
  ((x14 : Int32) < 0 →
    ∃ n, Z_X12_lotFrom_24 l G d K n v0 v1 (0 : Int64) 0 0 σ) ∧
  (¬ (x14 : Int32) < 0 →
    fN σ v0 12 35 fun x15 =>
    gI σ x15 v1 fun x16 =>
    K x16 σ)
set_option maxRecDepth 100000 in
set_option maxHeartbeats 4000000 in
theorem b_X12_lotFrom_0 {l : Launch} {G : GG} {d : Nat} {v0 : Nat} {v1 : Int32} {σ : Hp} {K : Int32 → Hp → Prop} (hf : F_X12_lotFrom l G d v0 v1 σ K) : Wd l G (d + 1) "CoinsLaidModel" yX12_lotFrom cX12_lotFrom 6 (some FieldType.int) 0 [(0, aR (some v0)), (1, aI v1)] [] σ 0 0 (xM (QI K)) := by
  unfold F_X12_lotFrom at hf
  refine r_aload_n (j := 0) rfl rfl dX12_lotFrom_0 ?_
  obtain ⟨fs_x13, x13, ha_x13, hv_x13, hf⟩ := hf
  refine r_get (Cn := RX12) (Tt := TX12) (N := 42) (n := 35) rfl uw_X12 (Nat.le_of_ble_eq_true rfl) wd_6_221 ha_x13 hv_x13 dX12_lotFrom_1 ?_
  refine r_iload_n (j := 1) rfl rfl dX12_lotFrom_4 ?_
  obtain ⟨N_x14, f_x14, ha_x14, hi_x14, hf⟩ := hf
  refine r_iald ha_x14 hi_x14 dX12_lotFrom_5 ?_
  generalize f_x14 (v1 : Int32).toNatClampNeg = x14 at hf ⊢
  refine r_iflt (x := x14) (tgt := 16) (by decide) dX12_lotFrom_6 (fun hc => ?_) (fun hc => ?_)
  · replace hf := hf.1 hc
    refine r_lconst (v := 0) (by decide) dX12_lotFrom_16 ?_
    refine r_lstore_n (L' := [(2, aJ (0 : Int64)), (0, aR (some v0)), (1, aI v1)]) rfl rfl (Nat.le_of_ble_eq_true rfl) dX12_lotFrom_17 ?_
    refine r_iconst (v := 0) (by decide) dX12_lotFrom_18 ?_
    refine r_istore (L' := [(4, aI 0), (2, aJ (0 : Int64)), (0, aR (some v0)), (1, aI v1)]) rfl (Nat.le_of_ble_eq_true rfl) dX12_lotFrom_19 ?_
    refine r_iconst (v := 0) (by decide) dX12_lotFrom_21 ?_
    refine r_istore (L' := [(5, aI 0), (4, aI 0), (2, aJ (0 : Int64)), (0, aR (some v0)), (1, aI v1)]) rfl (Nat.le_of_ble_eq_true rfl) dX12_lotFrom_22 ?_
    obtain ⟨n, hf⟩ := hf
    exact r_sub [3, 4, 2, 1, 0] rfl (z_X12_lotFrom_24 n _ _ _ _ _ _ hf)
  · replace hf := hf.2 hc
    refine r_aload_n (j := 0) rfl rfl dX12_lotFrom_9 ?_
    obtain ⟨fs_x15, x15, ha_x15, hv_x15, hf⟩ := hf
    refine r_get (Cn := RX12) (Tt := TX12) (N := 42) (n := 35) rfl uw_X12 (Nat.le_of_ble_eq_true rfl) wd_6_221 ha_x15 hv_x15 dX12_lotFrom_10 ?_
    refine r_iload_n (j := 1) rfl rfl dX12_lotFrom_13 ?_
    obtain ⟨N_x16, f_x16, ha_x16, hi_x16, hf⟩ := hf
    refine r_iald ha_x16 hi_x16 dX12_lotFrom_14 ?_
    generalize f_x16 (v1 : Int32).toNatClampNeg = x16 at hf ⊢
    exact r_ireturn rfl dX12_lotFrom_15 rfl ⟨_, rfl, hf⟩
theorem m_X12_lotFrom {l : Launch} {G : GG} {d : Nat} {v0 : Nat} {v1 : Int32} {σ : Hp} {K : Int32 → Hp → Prop} (hr : rv σ v0 12) (hf : F_X12_lotFrom l G d v0 v1 σ K) : C_X12_lotFrom l G (d + 1) v0 v1 σ K := ⟨hr, Sp.of (by decide) (Nat.le_of_ble_eq_true rfl) (b_X12_lotFrom_0 hf) rfl⟩
def F_X12_over_35 (l : Launch) (G : GG) (d : Nat) (s0 : Int32) (σ : Hp) (K : Int32 → Hp → Prop) : Prop :=
  K s0 σ
set_option maxRecDepth 100000 in
set_option maxHeartbeats 4000000 in
theorem b_X12_over_35 {l : Launch} {G : GG} {d : Nat} {s0 : Int32} {σ : Hp} {K : Int32 → Hp → Prop} (hf : F_X12_over_35 l G d s0 σ K) : Wd l G (d + 1) "CoinsLaidModel" yX12_over cX12_over 1 (some FieldType.int) 35 [] [aI s0] σ 0 0 (xM (QI K)) := by
  unfold F_X12_over_35 at hf
  exact r_ireturn rfl dX12_over_35 rfl ⟨_, rfl, hf⟩
def F_X12_over (l : Launch) (G : GG) (d : Nat) (v0 : Nat) (σ : Hp) (K : Int32 → Hp → Prop) : Prop :=
  C_X12_clear l G d v0 σ fun σ1 =>
  fZ σ1 v0 12 14 fun x3 =>
  (x3 = false →
    C_X12_no l G d v0 1 σ1 fun r5 σ4 =>
    F_X12_over_35 l G d r5 σ4 K) ∧
  (x3 = true →
    C_X12_standNow l G d v0 σ1 fun r7 σ6 =>
    C_X12_isOver l G d v0 r7 σ6 fun r9 σ8 =>
    (r9 = false →
      F_X12_over_35 l G d 0 σ8 K) ∧
    (r9 = true →
      F_X12_over_35 l G d 1 σ8 K))
set_option maxRecDepth 100000 in
set_option maxHeartbeats 4000000 in
theorem b_X12_over_0 {l : Launch} {G : GG} {d : Nat} {v0 : Nat} {σ : Hp} {K : Int32 → Hp → Prop} (hf : F_X12_over l G d v0 σ K) : Wd l G (d + 1) "CoinsLaidModel" yX12_over cX12_over 1 (some FieldType.int) 0 [(0, aR (some v0))] [] σ 0 0 (xM (QI K)) := by
  unfold F_X12_over at hf
  refine r_aload_n (j := 0) rfl rfl dX12_over_0 ?_
  try unfold C_X12_clear at hf
  obtain ⟨⟨fs_r2, ha_r2⟩, hf⟩ := hf
  refine r_invVU (t := 12) (As := []) (dz := d) (mz := 0) (sz := 0) rfl wd_7_85 wd_7_87 wd_p_49 cf_X12_clear (Nat.le_refl _) (Nat.zero_le _) (Nat.zero_le _) (cat_ok (Nat.le_of_ble_eq_true rfl)) rfl rfl ha_r2 dX12_over_1 hf (fun σ1 hk => ?_)
  replace hf := hk
  clear hk
  refine r_aload_n (j := 0) rfl rfl dX12_over_4 ?_
  obtain ⟨fs_x3, x3, ha_x3, hv_x3, hf⟩ := hf
  refine r_get (Cn := RX12) (Tt := TX12) (N := 42) (n := 14) rfl uw_X12 (Nat.le_of_ble_eq_true rfl) wd_6_200 ha_x3 hv_x3 dX12_over_5 ?_
  refine r_ifeqZ (b := x3) (tgt := 30) (by decide) dX12_over_8 (fun hc => ?_) (fun hc => ?_)
  · replace hf := hf.1 hc
    refine r_aload_n (j := 0) rfl rfl dX12_over_30 ?_
    refine r_iconst (v := 1) (by decide) dX12_over_31 ?_
    try unfold C_X12_no at hf
    obtain ⟨⟨fs_r5, ha_r5⟩, hf⟩ := hf
    refine r_invVI (t := 12) (As := [aI 1]) (dz := d) (mz := 0) (sz := 0) rfl wd_7_92 wd_7_94 wd_p_50 cf_X12_no (Nat.le_refl _) (Nat.zero_le _) (Nat.zero_le _) (cat_ok (Nat.le_of_ble_eq_true rfl)) rfl rfl ha_r5 dX12_over_32 hf (fun r5 σ4 hk => ?_)
    replace hf := hk
    clear hk
    exact r_sub [] rfl (b_X12_over_35 hf)
  · replace hf := hf.2 hc
    refine r_aload_n (j := 0) rfl rfl dX12_over_11 ?_
    refine r_aload_n (j := 0) rfl rfl dX12_over_12 ?_
    try unfold C_X12_standNow at hf
    obtain ⟨⟨fs_r7, ha_r7⟩, hf⟩ := hf
    refine r_invVI (t := 12) (As := []) (dz := d) (mz := 0) (sz := 0) rfl wd_8_26 wd_8_28 wd_p_77 cf_X12_standNow (Nat.le_refl _) (Nat.zero_le _) (Nat.zero_le _) (cat_ok (Nat.le_of_ble_eq_true rfl)) rfl rfl ha_r7 dX12_over_13 hf (fun r7 σ6 hk => ?_)
    replace hf := hk
    clear hk
    try unfold C_X12_isOver at hf
    obtain ⟨⟨fs_r9, ha_r9⟩, hf⟩ := hf
    refine r_invVZ (t := 12) (As := [aI r7]) (dz := d) (mz := 0) (sz := 0) rfl wd_8_88 wd_8_90 wd_p_83 cf_X12_isOver (Nat.le_refl _) (Nat.zero_le _) (Nat.zero_le _) (cat_ok (Nat.le_of_ble_eq_true rfl)) rfl rfl ha_r9 dX12_over_16 hf (fun r9 σ8 hk => ?_)
    replace hf := hk
    clear hk
    refine r_ifeqZ (b := r9) (tgt := 26) (by decide) dX12_over_19 (fun hc => ?_) (fun hc => ?_)
    · replace hf := hf.1 hc
      refine r_iconst (v := 0) (by decide) dX12_over_26 ?_
      refine r_goto (tgt := 35) (by decide) dX12_over_27 ?_
      exact r_sub [] rfl (b_X12_over_35 hf)
    · replace hf := hf.2 hc
      refine r_iconst (v := 1) (by decide) dX12_over_22 ?_
      refine r_goto (tgt := 35) (by decide) dX12_over_23 ?_
      exact r_sub [] rfl (b_X12_over_35 hf)
theorem m_X12_over {l : Launch} {G : GG} {d : Nat} {v0 : Nat} {σ : Hp} {K : Int32 → Hp → Prop} (hr : rv σ v0 12) (hf : F_X12_over l G d v0 σ K) : C_X12_over l G (d + 1) v0 σ K := ⟨hr, Sp.of (by decide) (Nat.le_of_ble_eq_true rfl) (b_X12_over_0 hf) rfl⟩
def F_X12_has_35 (l : Launch) (G : GG) (d : Nat) (s0 : Int32) (σ : Hp) (K : Int32 → Hp → Prop) : Prop :=
  K s0 σ
set_option maxRecDepth 100000 in
set_option maxHeartbeats 4000000 in
theorem b_X12_has_35 {l : Launch} {G : GG} {d : Nat} {s0 : Int32} {σ : Hp} {K : Int32 → Hp → Prop} (hf : F_X12_has_35 l G d s0 σ K) : Wd l G (d + 1) "CoinsLaidModel" yX12_has cX12_has 1 (some FieldType.int) 35 [] [aI s0] σ 0 0 (xM (QI K)) := by
  unfold F_X12_has_35 at hf
  exact r_ireturn rfl dX12_has_35 rfl ⟨_, rfl, hf⟩
def F_X12_has (l : Launch) (G : GG) (d : Nat) (v0 : Nat) (σ : Hp) (K : Int32 → Hp → Prop) : Prop :=
  C_X12_clear l G d v0 σ fun σ1 =>
  fZ σ1 v0 12 14 fun x3 =>
  (x3 = false →
    C_X12_no l G d v0 1 σ1 fun r5 σ4 =>
    F_X12_has_35 l G d r5 σ4 K) ∧
  (x3 = true →
    C_X12_standNow l G d v0 σ1 fun r7 σ6 =>
    C_X12_hasIt l G d v0 r7 σ6 fun r9 σ8 =>
    (r9 = false →
      F_X12_has_35 l G d 0 σ8 K) ∧
    (r9 = true →
      F_X12_has_35 l G d 1 σ8 K))
set_option maxRecDepth 100000 in
set_option maxHeartbeats 4000000 in
theorem b_X12_has_0 {l : Launch} {G : GG} {d : Nat} {v0 : Nat} {σ : Hp} {K : Int32 → Hp → Prop} (hf : F_X12_has l G d v0 σ K) : Wd l G (d + 1) "CoinsLaidModel" yX12_has cX12_has 1 (some FieldType.int) 0 [(0, aR (some v0))] [] σ 0 0 (xM (QI K)) := by
  unfold F_X12_has at hf
  refine r_aload_n (j := 0) rfl rfl dX12_has_0 ?_
  try unfold C_X12_clear at hf
  obtain ⟨⟨fs_r2, ha_r2⟩, hf⟩ := hf
  refine r_invVU (t := 12) (As := []) (dz := d) (mz := 0) (sz := 0) rfl wd_7_85 wd_7_87 wd_p_49 cf_X12_clear (Nat.le_refl _) (Nat.zero_le _) (Nat.zero_le _) (cat_ok (Nat.le_of_ble_eq_true rfl)) rfl rfl ha_r2 dX12_has_1 hf (fun σ1 hk => ?_)
  replace hf := hk
  clear hk
  refine r_aload_n (j := 0) rfl rfl dX12_has_4 ?_
  obtain ⟨fs_x3, x3, ha_x3, hv_x3, hf⟩ := hf
  refine r_get (Cn := RX12) (Tt := TX12) (N := 42) (n := 14) rfl uw_X12 (Nat.le_of_ble_eq_true rfl) wd_6_200 ha_x3 hv_x3 dX12_has_5 ?_
  refine r_ifeqZ (b := x3) (tgt := 30) (by decide) dX12_has_8 (fun hc => ?_) (fun hc => ?_)
  · replace hf := hf.1 hc
    refine r_aload_n (j := 0) rfl rfl dX12_has_30 ?_
    refine r_iconst (v := 1) (by decide) dX12_has_31 ?_
    try unfold C_X12_no at hf
    obtain ⟨⟨fs_r5, ha_r5⟩, hf⟩ := hf
    refine r_invVI (t := 12) (As := [aI 1]) (dz := d) (mz := 0) (sz := 0) rfl wd_7_92 wd_7_94 wd_p_50 cf_X12_no (Nat.le_refl _) (Nat.zero_le _) (Nat.zero_le _) (cat_ok (Nat.le_of_ble_eq_true rfl)) rfl rfl ha_r5 dX12_has_32 hf (fun r5 σ4 hk => ?_)
    replace hf := hk
    clear hk
    exact r_sub [] rfl (b_X12_has_35 hf)
  · replace hf := hf.2 hc
    refine r_aload_n (j := 0) rfl rfl dX12_has_11 ?_
    refine r_aload_n (j := 0) rfl rfl dX12_has_12 ?_
    try unfold C_X12_standNow at hf
    obtain ⟨⟨fs_r7, ha_r7⟩, hf⟩ := hf
    refine r_invVI (t := 12) (As := []) (dz := d) (mz := 0) (sz := 0) rfl wd_8_26 wd_8_28 wd_p_77 cf_X12_standNow (Nat.le_refl _) (Nat.zero_le _) (Nat.zero_le _) (cat_ok (Nat.le_of_ble_eq_true rfl)) rfl rfl ha_r7 dX12_has_13 hf (fun r7 σ6 hk => ?_)
    replace hf := hk
    clear hk
    try unfold C_X12_hasIt at hf
    obtain ⟨⟨fs_r9, ha_r9⟩, hf⟩ := hf
    refine r_invVZ (t := 12) (As := [aI r7]) (dz := d) (mz := 0) (sz := 0) rfl wd_8_96 wd_8_98 wd_p_84 cf_X12_hasIt (Nat.le_refl _) (Nat.zero_le _) (Nat.zero_le _) (cat_ok (Nat.le_of_ble_eq_true rfl)) rfl rfl ha_r9 dX12_has_16 hf (fun r9 σ8 hk => ?_)
    replace hf := hk
    clear hk
    refine r_ifeqZ (b := r9) (tgt := 26) (by decide) dX12_has_19 (fun hc => ?_) (fun hc => ?_)
    · replace hf := hf.1 hc
      refine r_iconst (v := 0) (by decide) dX12_has_26 ?_
      refine r_goto (tgt := 35) (by decide) dX12_has_27 ?_
      exact r_sub [] rfl (b_X12_has_35 hf)
    · replace hf := hf.2 hc
      refine r_iconst (v := 1) (by decide) dX12_has_22 ?_
      refine r_goto (tgt := 35) (by decide) dX12_has_23 ?_
      exact r_sub [] rfl (b_X12_has_35 hf)
theorem m_X12_has {l : Launch} {G : GG} {d : Nat} {v0 : Nat} {σ : Hp} {K : Int32 → Hp → Prop} (hr : rv σ v0 12) (hf : F_X12_has l G d v0 σ K) : C_X12_has l G (d + 1) v0 σ K := ⟨hr, Sp.of (by decide) (Nat.le_of_ble_eq_true rfl) (b_X12_has_0 hf) rfl⟩
def F_X12_goodOnes_62 (l : Launch) (G : GG) (d : Nat) (X10 : Nat → Int32 → Int32 → Int32 → Hp → Prop) (v0 : Nat) (v1 : Int32) (v2 : Int32) (v3 : Int32) (σ : Hp) (K : Int32 → Hp → Prop) : Prop :=
  X10 v0 v1 v2 (v3 + 1) σ
set_option maxRecDepth 100000 in
set_option maxHeartbeats 4000000 in
theorem b_X12_goodOnes_62 {l : Launch} {G : GG} {d : Nat} {X10 : Nat → Int32 → Int32 → Int32 → Hp → Prop} {v0 : Nat} {v1 : Int32} {v2 : Int32} {v3 : Int32} {σ : Hp} {K : Int32 → Hp → Prop} (hX10 : ∀ v0 v1 v2 v3 σ, X10 v0 v1 v2 v3 σ → Wd l G (d + 1) "CoinsLaidModel" yX12_goodOnes cX12_goodOnes 4 (some FieldType.int) 10 [(0, aR (some v0)), (1, aI v1), (2, aI v2), (3, aI v3)] [] σ 0 0 (xM (QI K))) (hf : F_X12_goodOnes_62 l G d X10 v0 v1 v2 v3 σ K) : Wd l G (d + 1) "CoinsLaidModel" yX12_goodOnes cX12_goodOnes 4 (some FieldType.int) 62 [(0, aR (some v0)), (1, aI v1), (2, aI v2), (3, aI v3)] [] σ 0 0 (xM (QI K)) := by
  unfold F_X12_goodOnes_62 at hf
  refine r_iinc (j := 3) (w := (v3 + 1)) (L' := [(3, aI (v3 + 1)), (0, aR (some v0)), (1, aI v1), (2, aI v2)]) rfl (by rfl) rfl (Nat.le_of_ble_eq_true rfl) dX12_goodOnes_62 ?_
  refine r_goto (tgt := 10) (by decide) dX12_goodOnes_65 ?_
  exact r_sub [1, 2, 3, 0] rfl (hX10 _ _ _ _ _ hf)
def F_X12_goodOnes_56 (l : Launch) (G : GG) (d : Nat) (X10 : Nat → Int32 → Int32 → Int32 → Hp → Prop) (v0 : Nat) (v1 : Int32) (v2 : Int32) (v3 : Int32) (s0 : Nat) (s1 : Int32) (σ : Hp) (K : Int32 → Hp → Prop) : Prop :=
  pF σ s0 12 38 (aI s1) fun σ1 =>
  F_X12_goodOnes_62 l G d X10 v0 v1 (v2 + 1) v3 σ1 K
set_option maxRecDepth 100000 in
set_option maxHeartbeats 4000000 in
theorem b_X12_goodOnes_56 {l : Launch} {G : GG} {d : Nat} {X10 : Nat → Int32 → Int32 → Int32 → Hp → Prop} {v0 : Nat} {v1 : Int32} {v2 : Int32} {v3 : Int32} {s0 : Nat} {s1 : Int32} {σ : Hp} {K : Int32 → Hp → Prop} (hX10 : ∀ v0 v1 v2 v3 σ, X10 v0 v1 v2 v3 σ → Wd l G (d + 1) "CoinsLaidModel" yX12_goodOnes cX12_goodOnes 4 (some FieldType.int) 10 [(0, aR (some v0)), (1, aI v1), (2, aI v2), (3, aI v3)] [] σ 0 0 (xM (QI K))) (hf : F_X12_goodOnes_56 l G d X10 v0 v1 v2 v3 s0 s1 σ K) : Wd l G (d + 1) "CoinsLaidModel" yX12_goodOnes cX12_goodOnes 4 (some FieldType.int) 56 [(0, aR (some v0)), (1, aI v1), (2, aI v2), (3, aI v3)] [aI s1, aR (some s0)] σ 0 0 (xM (QI K)) := by
  unfold F_X12_goodOnes_56 at hf
  obtain ⟨fs_x2, ha_x2, hf⟩ := hf
  generalize hσ1 : hset σ s0 (.inl (12, fs_x2.set 38 (aI s1))) = σ1 at hf
  refine r_put (Cn := RX12) (Tt := TX12) (N := 42) (n := 38) (v := aI s1) rfl uw_X12 (Nat.le_of_ble_eq_true rfl) wd_6_224 ha_x2 (ty0 := tyX12) tyX12_ok nmX12 rfl (fo_I s1) dX12_goodOnes_56 ?_
  rw [hσ1]
  refine r_iinc (j := 2) (w := (v2 + 1)) (L' := [(2, aI (v2 + 1)), (0, aR (some v0)), (1, aI v1), (3, aI v3)]) rfl (by rfl) rfl (Nat.le_of_ble_eq_true rfl) dX12_goodOnes_59 ?_
  exact r_sub [1, 2, 0, 3] rfl (b_X12_goodOnes_62 hX10 hf)
def F_X12_goodOnes_10 (l : Launch) (G : GG) (d : Nat) (X10 : Nat → Int32 → Int32 → Int32 → Hp → Prop) (v0 : Nat) (v1 : Int32) (v2 : Int32) (v3 : Int32) (σ : Hp) (K : Int32 → Hp → Prop) : Prop :=
  fI σ v0 12 30 fun x3 =>
  ((x3 : Int32) ≤ (v3 : Int32) →
    K v2 σ) ∧
  (¬ (x3 : Int32) ≤ (v3 : Int32) →
    C_X12_mayBe l G d v0 v1 v3 σ fun r5 σ4 =>
    (r5 = false →
      F_X12_goodOnes_62 l G d X10 v0 v1 v2 v3 σ4 K) ∧
    (r5 = true →
      C_X12_behind l G d v0 v1 v3 σ4 fun r7 σ6 =>
      C_X12_hasIt l G d v0 r7 σ6 fun r9 σ8 =>
      (r9 = false →
        (¬ (v2 : Int32) = 0 →
          fI σ8 v0 12 38 fun x10 =>
          F_X12_goodOnes_56 l G d X10 v0 v1 v2 v3 v0 x10 σ8 K) ∧
        ((v2 : Int32) = 0 →
          F_X12_goodOnes_56 l G d X10 v0 v1 v2 v3 v0 v3 σ8 K)) ∧
      (r9 = true →
        F_X12_goodOnes_62 l G d X10 v0 v1 v2 v3 σ8 K)))
set_option maxRecDepth 100000 in
set_option maxHeartbeats 4000000 in
theorem b_X12_goodOnes_10 {l : Launch} {G : GG} {d : Nat} {X10 : Nat → Int32 → Int32 → Int32 → Hp → Prop} {v0 : Nat} {v1 : Int32} {v2 : Int32} {v3 : Int32} {σ : Hp} {K : Int32 → Hp → Prop} (hX10 : ∀ v0 v1 v2 v3 σ, X10 v0 v1 v2 v3 σ → Wd l G (d + 1) "CoinsLaidModel" yX12_goodOnes cX12_goodOnes 4 (some FieldType.int) 10 [(0, aR (some v0)), (1, aI v1), (2, aI v2), (3, aI v3)] [] σ 0 0 (xM (QI K))) (hf : F_X12_goodOnes_10 l G d X10 v0 v1 v2 v3 σ K) : Wd l G (d + 1) "CoinsLaidModel" yX12_goodOnes cX12_goodOnes 4 (some FieldType.int) 10 [(0, aR (some v0)), (1, aI v1), (2, aI v2), (3, aI v3)] [] σ 0 0 (xM (QI K)) := by
  unfold F_X12_goodOnes_10 at hf
  refine r_iload_n (j := 3) rfl rfl dX12_goodOnes_10 ?_
  refine r_aload_n (j := 0) rfl rfl dX12_goodOnes_11 ?_
  obtain ⟨fs_x3, x3, ha_x3, hv_x3, hf⟩ := hf
  refine r_get (Cn := RX12) (Tt := TX12) (N := 42) (n := 30) rfl uw_X12 (Nat.le_of_ble_eq_true rfl) wd_6_216 ha_x3 hv_x3 dX12_goodOnes_12 ?_
  refine r_icmpge (x := v3) (y := x3) (tgt := 68) (by decide) dX12_goodOnes_15 (fun hc => ?_) (fun hc => ?_)
  · replace hf := hf.1 hc
    refine r_iload_n (j := 2) rfl rfl dX12_goodOnes_68 ?_
    exact r_ireturn rfl dX12_goodOnes_69 rfl ⟨_, rfl, hf⟩
  · replace hf := hf.2 hc
    refine r_aload_n (j := 0) rfl rfl dX12_goodOnes_18 ?_
    refine r_iload_n (j := 1) rfl rfl dX12_goodOnes_19 ?_
    refine r_iload_n (j := 3) rfl rfl dX12_goodOnes_20 ?_
    try unfold C_X12_mayBe at hf
    obtain ⟨⟨fs_r5, ha_r5⟩, hf⟩ := hf
    refine r_invVZ (t := 12) (As := [aI v1, aI v3]) (dz := d) (mz := 0) (sz := 0) rfl wd_8_30 wd_8_32 wd_p_78 cf_X12_mayBe (Nat.le_refl _) (Nat.zero_le _) (Nat.zero_le _) (cat_ok (Nat.le_of_ble_eq_true rfl)) rfl rfl ha_r5 dX12_goodOnes_21 hf (fun r5 σ4 hk => ?_)
    replace hf := hk
    clear hk
    refine r_ifeqZ (b := r5) (tgt := 62) (by decide) dX12_goodOnes_24 (fun hc => ?_) (fun hc => ?_)
    · replace hf := hf.1 hc
      exact r_sub [0, 1, 2, 3] rfl (b_X12_goodOnes_62 hX10 hf)
    · replace hf := hf.2 hc
      refine r_aload_n (j := 0) rfl rfl dX12_goodOnes_27 ?_
      refine r_aload_n (j := 0) rfl rfl dX12_goodOnes_28 ?_
      refine r_iload_n (j := 1) rfl rfl dX12_goodOnes_29 ?_
      refine r_iload_n (j := 3) rfl rfl dX12_goodOnes_30 ?_
      try unfold C_X12_behind at hf
      obtain ⟨⟨fs_r7, ha_r7⟩, hf⟩ := hf
      refine r_invVI (t := 12) (As := [aI v1, aI v3]) (dz := d) (mz := 0) (sz := 0) rfl wd_8_100 wd_8_102 wd_p_85 cf_X12_behind (Nat.le_refl _) (Nat.zero_le _) (Nat.zero_le _) (cat_ok (Nat.le_of_ble_eq_true rfl)) rfl rfl ha_r7 dX12_goodOnes_31 hf (fun r7 σ6 hk => ?_)
      replace hf := hk
      clear hk
      try unfold C_X12_hasIt at hf
      obtain ⟨⟨fs_r9, ha_r9⟩, hf⟩ := hf
      refine r_invVZ (t := 12) (As := [aI r7]) (dz := d) (mz := 0) (sz := 0) rfl wd_8_96 wd_8_98 wd_p_84 cf_X12_hasIt (Nat.le_refl _) (Nat.zero_le _) (Nat.zero_le _) (cat_ok (Nat.le_of_ble_eq_true rfl)) rfl rfl ha_r9 dX12_goodOnes_34 hf (fun r9 σ8 hk => ?_)
      replace hf := hk
      clear hk
      refine r_ifeqZ (b := r9) (tgt := 43) (by decide) dX12_goodOnes_37 (fun hc => ?_) (fun hc => ?_)
      · replace hf := hf.1 hc
        refine r_aload_n (j := 0) rfl rfl dX12_goodOnes_43 ?_
        refine r_iload_n (j := 2) rfl rfl dX12_goodOnes_44 ?_
        refine r_ifne (x := v2) (tgt := 52) (by decide) dX12_goodOnes_45 (fun hc => ?_) (fun hc => ?_)
        · replace hf := hf.1 hc
          refine r_aload_n (j := 0) rfl rfl dX12_goodOnes_52 ?_
          obtain ⟨fs_x10, x10, ha_x10, hv_x10, hf⟩ := hf
          refine r_get (Cn := RX12) (Tt := TX12) (N := 42) (n := 38) rfl uw_X12 (Nat.le_of_ble_eq_true rfl) wd_6_224 ha_x10 hv_x10 dX12_goodOnes_53 ?_
          exact r_sub [0, 1, 2, 3] rfl (b_X12_goodOnes_56 hX10 hf)
        · replace hf := hf.2 hc
          refine r_iload_n (j := 3) rfl rfl dX12_goodOnes_48 ?_
          refine r_goto (tgt := 56) (by decide) dX12_goodOnes_49 ?_
          exact r_sub [0, 1, 2, 3] rfl (b_X12_goodOnes_56 hX10 hf)
      · replace hf := hf.2 hc
        refine r_goto (tgt := 62) (by decide) dX12_goodOnes_40 ?_
        exact r_sub [0, 1, 2, 3] rfl (b_X12_goodOnes_62 hX10 hf)
def Z_X12_goodOnes_10 (l : Launch) (G : GG) (d : Nat) (K : Int32 → Hp → Prop) : Nat → Nat → Int32 → Int32 → Int32 → Hp → Prop
  | 0 => fun _ _ _ _ _ => False
  | n + 1 => fun v0 v1 v2 v3 σ => F_X12_goodOnes_10 l G d (Z_X12_goodOnes_10 l G d K n) v0 v1 v2 v3 σ K
theorem z_X12_goodOnes_10 {l : Launch} {G : GG} {d : Nat} {K : Int32 → Hp → Prop} : ∀ (n : Nat) v0 v1 v2 v3 σ, Z_X12_goodOnes_10 l G d K n v0 v1 v2 v3 σ → Wd l G (d + 1) "CoinsLaidModel" yX12_goodOnes cX12_goodOnes 4 (some FieldType.int) 10 [(0, aR (some v0)), (1, aI v1), (2, aI v2), (3, aI v3)] [] σ 0 0 (xM (QI K)) := by
  intro n
  induction n with
  | zero => intro v0 v1 v2 v3 σ hf; exact hf.elim
  | succ n ih => intro v0 v1 v2 v3 σ hf; exact b_X12_goodOnes_10 ih hf
def F_X12_goodOnes (l : Launch) (G : GG) (d : Nat) (v0 : Nat) (v1 : Int32) (σ : Hp) (K : Int32 → Hp → Prop) : Prop :=
  pF σ v0 12 38 (aI (-2)) fun σ11 =>
  ∃ n, Z_X12_goodOnes_10 l G d K n v0 v1 0 0 σ11
set_option maxRecDepth 100000 in
set_option maxHeartbeats 4000000 in
theorem b_X12_goodOnes_0 {l : Launch} {G : GG} {d : Nat} {v0 : Nat} {v1 : Int32} {σ : Hp} {K : Int32 → Hp → Prop} (hf : F_X12_goodOnes l G d v0 v1 σ K) : Wd l G (d + 1) "CoinsLaidModel" yX12_goodOnes cX12_goodOnes 4 (some FieldType.int) 0 [(0, aR (some v0)), (1, aI v1)] [] σ 0 0 (xM (QI K)) := by
  unfold F_X12_goodOnes at hf
  refine r_iconst (v := 0) (by decide) dX12_goodOnes_0 ?_
  refine r_istore_n (L' := [(2, aI 0), (0, aR (some v0)), (1, aI v1)]) rfl rfl (Nat.le_of_ble_eq_true rfl) dX12_goodOnes_1 ?_
  refine r_aload_n (j := 1) rfl rfl dX12_goodOnes_2 ?_
  refine r_bipush (v := (-2)) (by decide) dX12_goodOnes_3 ?_
  obtain ⟨fs_x12, ha_x12, hf⟩ := hf
  generalize hσ11 : hset σ v0 (.inl (12, fs_x12.set 38 (aI (-2)))) = σ11 at hf
  refine r_put (Cn := RX12) (Tt := TX12) (N := 42) (n := 38) (v := aI (-2)) rfl uw_X12 (Nat.le_of_ble_eq_true rfl) wd_6_224 ha_x12 (ty0 := tyX12) tyX12_ok nmX12 rfl (fo_I (-2)) dX12_goodOnes_5 ?_
  rw [hσ11]
  refine r_iconst (v := 0) (by decide) dX12_goodOnes_8 ?_
  refine r_istore_n (L' := [(3, aI 0), (2, aI 0), (0, aR (some v0)), (1, aI v1)]) rfl rfl (Nat.le_of_ble_eq_true rfl) dX12_goodOnes_9 ?_
  obtain ⟨n, hf⟩ := hf
  exact r_sub [2, 3, 1, 0] rfl (z_X12_goodOnes_10 n _ _ _ _ _ hf)
theorem m_X12_goodOnes {l : Launch} {G : GG} {d : Nat} {v0 : Nat} {v1 : Int32} {σ : Hp} {K : Int32 → Hp → Prop} (hr : rv σ v0 12) (hf : F_X12_goodOnes l G d v0 v1 σ K) : C_X12_goodOnes l G (d + 1) v0 v1 σ K := ⟨hr, Sp.of (by decide) (Nat.le_of_ble_eq_true rfl) (b_X12_goodOnes_0 hf) rfl⟩
def F_X12_best (l : Launch) (G : GG) (d : Nat) (v0 : Nat) (σ : Hp) (K : Int32 → Hp → Prop) : Prop :=
  C_X12_clear l G d v0 σ fun σ1 =>
  fZ σ1 v0 12 14 fun x3 =>
  (x3 = true →
    C_X12_standNow l G d v0 σ1 fun r5 σ4 =>
    C_X12_goodOnes l G d v0 r5 σ4 fun r7 σ6 =>
    fI σ6 v0 12 38 fun x8 =>
    K x8 σ6) ∧
  (x3 = false →
    C_X12_no l G d v0 1 σ1 fun r10 σ9 =>
    K r10 σ9)
set_option maxRecDepth 100000 in
set_option maxHeartbeats 4000000 in
theorem b_X12_best_0 {l : Launch} {G : GG} {d : Nat} {v0 : Nat} {σ : Hp} {K : Int32 → Hp → Prop} (hf : F_X12_best l G d v0 σ K) : Wd l G (d + 1) "CoinsLaidModel" yX12_best cX12_best 1 (some FieldType.int) 0 [(0, aR (some v0))] [] σ 0 0 (xM (QI K)) := by
  unfold F_X12_best at hf
  refine r_aload_n (j := 0) rfl rfl dX12_best_0 ?_
  try unfold C_X12_clear at hf
  obtain ⟨⟨fs_r2, ha_r2⟩, hf⟩ := hf
  refine r_invVU (t := 12) (As := []) (dz := d) (mz := 0) (sz := 0) rfl wd_7_85 wd_7_87 wd_p_49 cf_X12_clear (Nat.le_refl _) (Nat.zero_le _) (Nat.zero_le _) (cat_ok (Nat.le_of_ble_eq_true rfl)) rfl rfl ha_r2 dX12_best_1 hf (fun σ1 hk => ?_)
  replace hf := hk
  clear hk
  refine r_aload_n (j := 0) rfl rfl dX12_best_4 ?_
  obtain ⟨fs_x3, x3, ha_x3, hv_x3, hf⟩ := hf
  refine r_get (Cn := RX12) (Tt := TX12) (N := 42) (n := 14) rfl uw_X12 (Nat.le_of_ble_eq_true rfl) wd_6_200 ha_x3 hv_x3 dX12_best_5 ?_
  refine r_ifneZ (b := x3) (tgt := 17) (by decide) dX12_best_8 (fun hc => ?_) (fun hc => ?_)
  · replace hf := hf.1 hc
    refine r_aload_n (j := 0) rfl rfl dX12_best_17 ?_
    refine r_aload_n (j := 0) rfl rfl dX12_best_18 ?_
    try unfold C_X12_standNow at hf
    obtain ⟨⟨fs_r5, ha_r5⟩, hf⟩ := hf
    refine r_invVI (t := 12) (As := []) (dz := d) (mz := 0) (sz := 0) rfl wd_8_26 wd_8_28 wd_p_77 cf_X12_standNow (Nat.le_refl _) (Nat.zero_le _) (Nat.zero_le _) (cat_ok (Nat.le_of_ble_eq_true rfl)) rfl rfl ha_r5 dX12_best_19 hf (fun r5 σ4 hk => ?_)
    replace hf := hk
    clear hk
    try unfold C_X12_goodOnes at hf
    obtain ⟨⟨fs_r7, ha_r7⟩, hf⟩ := hf
    refine r_invVI (t := 12) (As := [aI r5]) (dz := d) (mz := 0) (sz := 0) rfl wd_8_108 wd_8_110 wd_p_86 cf_X12_goodOnes (Nat.le_refl _) (Nat.zero_le _) (Nat.zero_le _) (cat_ok (Nat.le_of_ble_eq_true rfl)) rfl rfl ha_r7 dX12_best_22 hf (fun r7 σ6 hk => ?_)
    replace hf := hk
    clear hk
    refine r_pop rfl dX12_best_25 ?_
    refine r_aload_n (j := 0) rfl rfl dX12_best_26 ?_
    obtain ⟨fs_x8, x8, ha_x8, hv_x8, hf⟩ := hf
    refine r_get (Cn := RX12) (Tt := TX12) (N := 42) (n := 38) rfl uw_X12 (Nat.le_of_ble_eq_true rfl) wd_6_224 ha_x8 hv_x8 dX12_best_27 ?_
    exact r_ireturn rfl dX12_best_30 rfl ⟨_, rfl, hf⟩
  · replace hf := hf.2 hc
    refine r_aload_n (j := 0) rfl rfl dX12_best_11 ?_
    refine r_iconst (v := 1) (by decide) dX12_best_12 ?_
    try unfold C_X12_no at hf
    obtain ⟨⟨fs_r10, ha_r10⟩, hf⟩ := hf
    refine r_invVI (t := 12) (As := [aI 1]) (dz := d) (mz := 0) (sz := 0) rfl wd_7_92 wd_7_94 wd_p_50 cf_X12_no (Nat.le_refl _) (Nat.zero_le _) (Nat.zero_le _) (cat_ok (Nat.le_of_ble_eq_true rfl)) rfl rfl ha_r10 dX12_best_13 hf (fun r10 σ9 hk => ?_)
    replace hf := hk
    clear hk
    exact r_ireturn rfl dX12_best_16 rfl ⟨_, rfl, hf⟩
theorem m_X12_best {l : Launch} {G : GG} {d : Nat} {v0 : Nat} {σ : Hp} {K : Int32 → Hp → Prop} (hr : rv σ v0 12) (hf : F_X12_best l G d v0 σ K) : C_X12_best l G (d + 1) v0 σ K := ⟨hr, Sp.of (by decide) (Nat.le_of_ble_eq_true rfl) (b_X12_best_0 hf) rfl⟩
def F_X12_good_27 (l : Launch) (G : GG) (d : Nat) (s0 : Int32) (σ : Hp) (K : Int32 → Hp → Prop) : Prop :=
  K s0 σ
set_option maxRecDepth 100000 in
set_option maxHeartbeats 4000000 in
theorem b_X12_good_27 {l : Launch} {G : GG} {d : Nat} {s0 : Int32} {σ : Hp} {K : Int32 → Hp → Prop} (hf : F_X12_good_27 l G d s0 σ K) : Wd l G (d + 1) "CoinsLaidModel" yX12_good cX12_good 1 (some FieldType.int) 27 [] [aI s0] σ 0 0 (xM (QI K)) := by
  unfold F_X12_good_27 at hf
  exact r_ireturn rfl dX12_good_27 rfl ⟨_, rfl, hf⟩
def F_X12_good (l : Launch) (G : GG) (d : Nat) (v0 : Nat) (σ : Hp) (K : Int32 → Hp → Prop) : Prop :=
  C_X12_clear l G d v0 σ fun σ1 =>
  fZ σ1 v0 12 14 fun x3 =>
  (x3 = false →
    C_X12_no l G d v0 1 σ1 fun r5 σ4 =>
    F_X12_good_27 l G d r5 σ4 K) ∧
  (x3 = true →
    C_X12_standNow l G d v0 σ1 fun r7 σ6 =>
    C_X12_goodOnes l G d v0 r7 σ6 fun r9 σ8 =>
    F_X12_good_27 l G d r9 σ8 K)
set_option maxRecDepth 100000 in
set_option maxHeartbeats 4000000 in
theorem b_X12_good_0 {l : Launch} {G : GG} {d : Nat} {v0 : Nat} {σ : Hp} {K : Int32 → Hp → Prop} (hf : F_X12_good l G d v0 σ K) : Wd l G (d + 1) "CoinsLaidModel" yX12_good cX12_good 1 (some FieldType.int) 0 [(0, aR (some v0))] [] σ 0 0 (xM (QI K)) := by
  unfold F_X12_good at hf
  refine r_aload_n (j := 0) rfl rfl dX12_good_0 ?_
  try unfold C_X12_clear at hf
  obtain ⟨⟨fs_r2, ha_r2⟩, hf⟩ := hf
  refine r_invVU (t := 12) (As := []) (dz := d) (mz := 0) (sz := 0) rfl wd_7_85 wd_7_87 wd_p_49 cf_X12_clear (Nat.le_refl _) (Nat.zero_le _) (Nat.zero_le _) (cat_ok (Nat.le_of_ble_eq_true rfl)) rfl rfl ha_r2 dX12_good_1 hf (fun σ1 hk => ?_)
  replace hf := hk
  clear hk
  refine r_aload_n (j := 0) rfl rfl dX12_good_4 ?_
  obtain ⟨fs_x3, x3, ha_x3, hv_x3, hf⟩ := hf
  refine r_get (Cn := RX12) (Tt := TX12) (N := 42) (n := 14) rfl uw_X12 (Nat.le_of_ble_eq_true rfl) wd_6_200 ha_x3 hv_x3 dX12_good_5 ?_
  refine r_ifeqZ (b := x3) (tgt := 22) (by decide) dX12_good_8 (fun hc => ?_) (fun hc => ?_)
  · replace hf := hf.1 hc
    refine r_aload_n (j := 0) rfl rfl dX12_good_22 ?_
    refine r_iconst (v := 1) (by decide) dX12_good_23 ?_
    try unfold C_X12_no at hf
    obtain ⟨⟨fs_r5, ha_r5⟩, hf⟩ := hf
    refine r_invVI (t := 12) (As := [aI 1]) (dz := d) (mz := 0) (sz := 0) rfl wd_7_92 wd_7_94 wd_p_50 cf_X12_no (Nat.le_refl _) (Nat.zero_le _) (Nat.zero_le _) (cat_ok (Nat.le_of_ble_eq_true rfl)) rfl rfl ha_r5 dX12_good_24 hf (fun r5 σ4 hk => ?_)
    replace hf := hk
    clear hk
    exact r_sub [] rfl (b_X12_good_27 hf)
  · replace hf := hf.2 hc
    refine r_aload_n (j := 0) rfl rfl dX12_good_11 ?_
    refine r_aload_n (j := 0) rfl rfl dX12_good_12 ?_
    try unfold C_X12_standNow at hf
    obtain ⟨⟨fs_r7, ha_r7⟩, hf⟩ := hf
    refine r_invVI (t := 12) (As := []) (dz := d) (mz := 0) (sz := 0) rfl wd_8_26 wd_8_28 wd_p_77 cf_X12_standNow (Nat.le_refl _) (Nat.zero_le _) (Nat.zero_le _) (cat_ok (Nat.le_of_ble_eq_true rfl)) rfl rfl ha_r7 dX12_good_13 hf (fun r7 σ6 hk => ?_)
    replace hf := hk
    clear hk
    try unfold C_X12_goodOnes at hf
    obtain ⟨⟨fs_r9, ha_r9⟩, hf⟩ := hf
    refine r_invVI (t := 12) (As := [aI r7]) (dz := d) (mz := 0) (sz := 0) rfl wd_8_108 wd_8_110 wd_p_86 cf_X12_goodOnes (Nat.le_refl _) (Nat.zero_le _) (Nat.zero_le _) (cat_ok (Nat.le_of_ble_eq_true rfl)) rfl rfl ha_r9 dX12_good_16 hf (fun r9 σ8 hk => ?_)
    replace hf := hk
    clear hk
    refine r_goto (tgt := 27) (by decide) dX12_good_19 ?_
    exact r_sub [] rfl (b_X12_good_27 hf)
theorem m_X12_good {l : Launch} {G : GG} {d : Nat} {v0 : Nat} {σ : Hp} {K : Int32 → Hp → Prop} (hr : rv σ v0 12) (hf : F_X12_good l G d v0 σ K) : C_X12_good l G (d + 1) v0 σ K := ⟨hr, Sp.of (by decide) (Nat.le_of_ble_eq_true rfl) (b_X12_good_0 hf) rfl⟩
def F_X12_soonest_27 (l : Launch) (G : GG) (d : Nat) (s0 : Int32) (σ : Hp) (K : Int32 → Hp → Prop) : Prop :=
  K s0 σ
set_option maxRecDepth 100000 in
set_option maxHeartbeats 4000000 in
theorem b_X12_soonest_27 {l : Launch} {G : GG} {d : Nat} {s0 : Int32} {σ : Hp} {K : Int32 → Hp → Prop} (hf : F_X12_soonest_27 l G d s0 σ K) : Wd l G (d + 1) "CoinsLaidModel" yX12_soonest cX12_soonest 1 (some FieldType.int) 27 [] [aI s0] σ 0 0 (xM (QI K)) := by
  unfold F_X12_soonest_27 at hf
  exact r_ireturn rfl dX12_soonest_27 rfl ⟨_, rfl, hf⟩
def F_X12_soonest (l : Launch) (G : GG) (d : Nat) (v0 : Nat) (σ : Hp) (K : Int32 → Hp → Prop) : Prop :=
  C_X12_clear l G d v0 σ fun σ1 =>
  fZ σ1 v0 12 14 fun x3 =>
  (x3 = false →
    C_X12_no l G d v0 1 σ1 fun r5 σ4 =>
    F_X12_soonest_27 l G d r5 σ4 K) ∧
  (x3 = true →
    C_X12_standNow l G d v0 σ1 fun r7 σ6 =>
    C_X12_soonestFrom l G d v0 r7 σ6 fun r9 σ8 =>
    F_X12_soonest_27 l G d r9 σ8 K)
set_option maxRecDepth 100000 in
set_option maxHeartbeats 4000000 in
theorem b_X12_soonest_0 {l : Launch} {G : GG} {d : Nat} {v0 : Nat} {σ : Hp} {K : Int32 → Hp → Prop} (hf : F_X12_soonest l G d v0 σ K) : Wd l G (d + 1) "CoinsLaidModel" yX12_soonest cX12_soonest 1 (some FieldType.int) 0 [(0, aR (some v0))] [] σ 0 0 (xM (QI K)) := by
  unfold F_X12_soonest at hf
  refine r_aload_n (j := 0) rfl rfl dX12_soonest_0 ?_
  try unfold C_X12_clear at hf
  obtain ⟨⟨fs_r2, ha_r2⟩, hf⟩ := hf
  refine r_invVU (t := 12) (As := []) (dz := d) (mz := 0) (sz := 0) rfl wd_7_85 wd_7_87 wd_p_49 cf_X12_clear (Nat.le_refl _) (Nat.zero_le _) (Nat.zero_le _) (cat_ok (Nat.le_of_ble_eq_true rfl)) rfl rfl ha_r2 dX12_soonest_1 hf (fun σ1 hk => ?_)
  replace hf := hk
  clear hk
  refine r_aload_n (j := 0) rfl rfl dX12_soonest_4 ?_
  obtain ⟨fs_x3, x3, ha_x3, hv_x3, hf⟩ := hf
  refine r_get (Cn := RX12) (Tt := TX12) (N := 42) (n := 14) rfl uw_X12 (Nat.le_of_ble_eq_true rfl) wd_6_200 ha_x3 hv_x3 dX12_soonest_5 ?_
  refine r_ifeqZ (b := x3) (tgt := 22) (by decide) dX12_soonest_8 (fun hc => ?_) (fun hc => ?_)
  · replace hf := hf.1 hc
    refine r_aload_n (j := 0) rfl rfl dX12_soonest_22 ?_
    refine r_iconst (v := 1) (by decide) dX12_soonest_23 ?_
    try unfold C_X12_no at hf
    obtain ⟨⟨fs_r5, ha_r5⟩, hf⟩ := hf
    refine r_invVI (t := 12) (As := [aI 1]) (dz := d) (mz := 0) (sz := 0) rfl wd_7_92 wd_7_94 wd_p_50 cf_X12_no (Nat.le_refl _) (Nat.zero_le _) (Nat.zero_le _) (cat_ok (Nat.le_of_ble_eq_true rfl)) rfl rfl ha_r5 dX12_soonest_24 hf (fun r5 σ4 hk => ?_)
    replace hf := hk
    clear hk
    exact r_sub [] rfl (b_X12_soonest_27 hf)
  · replace hf := hf.2 hc
    refine r_aload_n (j := 0) rfl rfl dX12_soonest_11 ?_
    refine r_aload_n (j := 0) rfl rfl dX12_soonest_12 ?_
    try unfold C_X12_standNow at hf
    obtain ⟨⟨fs_r7, ha_r7⟩, hf⟩ := hf
    refine r_invVI (t := 12) (As := []) (dz := d) (mz := 0) (sz := 0) rfl wd_8_26 wd_8_28 wd_p_77 cf_X12_standNow (Nat.le_refl _) (Nat.zero_le _) (Nat.zero_le _) (cat_ok (Nat.le_of_ble_eq_true rfl)) rfl rfl ha_r7 dX12_soonest_13 hf (fun r7 σ6 hk => ?_)
    replace hf := hk
    clear hk
    try unfold C_X12_soonestFrom at hf
    obtain ⟨⟨fs_r9, ha_r9⟩, hf⟩ := hf
    refine r_invVI (t := 12) (As := [aI r7]) (dz := d) (mz := 0) (sz := 0) rfl wd_8_120 wd_8_122 wd_p_87 cf_X12_soonestFrom (Nat.le_refl _) (Nat.zero_le _) (Nat.zero_le _) (cat_ok (Nat.le_of_ble_eq_true rfl)) rfl rfl ha_r9 dX12_soonest_16 hf (fun r9 σ8 hk => ?_)
    replace hf := hk
    clear hk
    refine r_goto (tgt := 27) (by decide) dX12_soonest_19 ?_
    exact r_sub [] rfl (b_X12_soonest_27 hf)
theorem m_X12_soonest {l : Launch} {G : GG} {d : Nat} {v0 : Nat} {σ : Hp} {K : Int32 → Hp → Prop} (hr : rv σ v0 12) (hf : F_X12_soonest l G d v0 σ K) : C_X12_soonest l G (d + 1) v0 σ K := ⟨hr, Sp.of (by decide) (Nat.le_of_ble_eq_true rfl) (b_X12_soonest_0 hf) rfl⟩
def F_X12_ways_28 (l : Launch) (G : GG) (d : Nat) (s0 : Int64) (σ : Hp) (K : Int64 → Hp → Prop) : Prop :=
  K s0 σ
set_option maxRecDepth 100000 in
set_option maxHeartbeats 4000000 in
theorem b_X12_ways_28 {l : Launch} {G : GG} {d : Nat} {s0 : Int64} {σ : Hp} {K : Int64 → Hp → Prop} (hf : F_X12_ways_28 l G d s0 σ K) : Wd l G (d + 1) "CoinsLaidModel" yX12_ways cX12_ways 1 (some FieldType.long) 28 [] [aJ s0] σ 0 0 (xM (QJ K)) := by
  unfold F_X12_ways_28 at hf
  exact r_lreturn rfl dX12_ways_28 rfl ⟨_, rfl, hf⟩
def F_X12_ways (l : Launch) (G : GG) (d : Nat) (v0 : Nat) (σ : Hp) (K : Int64 → Hp → Prop) : Prop :=
  C_X12_clear l G d v0 σ fun σ1 =>
  fZ σ1 v0 12 14 fun x3 =>
  (x3 = false →
    C_X12_no l G d v0 1 σ1 fun r5 σ4 =>
    F_X12_ways_28 l G d ((r5 : Int32).toInt64) σ4 K) ∧
  (x3 = true →
    C_X12_standNow l G d v0 σ1 fun r7 σ6 =>
    C_X12_waysFrom l G d v0 r7 σ6 fun r9 σ8 =>
    F_X12_ways_28 l G d r9 σ8 K)
set_option maxRecDepth 100000 in
set_option maxHeartbeats 4000000 in
theorem b_X12_ways_0 {l : Launch} {G : GG} {d : Nat} {v0 : Nat} {σ : Hp} {K : Int64 → Hp → Prop} (hf : F_X12_ways l G d v0 σ K) : Wd l G (d + 1) "CoinsLaidModel" yX12_ways cX12_ways 1 (some FieldType.long) 0 [(0, aR (some v0))] [] σ 0 0 (xM (QJ K)) := by
  unfold F_X12_ways at hf
  refine r_aload_n (j := 0) rfl rfl dX12_ways_0 ?_
  try unfold C_X12_clear at hf
  obtain ⟨⟨fs_r2, ha_r2⟩, hf⟩ := hf
  refine r_invVU (t := 12) (As := []) (dz := d) (mz := 0) (sz := 0) rfl wd_7_85 wd_7_87 wd_p_49 cf_X12_clear (Nat.le_refl _) (Nat.zero_le _) (Nat.zero_le _) (cat_ok (Nat.le_of_ble_eq_true rfl)) rfl rfl ha_r2 dX12_ways_1 hf (fun σ1 hk => ?_)
  replace hf := hk
  clear hk
  refine r_aload_n (j := 0) rfl rfl dX12_ways_4 ?_
  obtain ⟨fs_x3, x3, ha_x3, hv_x3, hf⟩ := hf
  refine r_get (Cn := RX12) (Tt := TX12) (N := 42) (n := 14) rfl uw_X12 (Nat.le_of_ble_eq_true rfl) wd_6_200 ha_x3 hv_x3 dX12_ways_5 ?_
  refine r_ifeqZ (b := x3) (tgt := 22) (by decide) dX12_ways_8 (fun hc => ?_) (fun hc => ?_)
  · replace hf := hf.1 hc
    refine r_aload_n (j := 0) rfl rfl dX12_ways_22 ?_
    refine r_iconst (v := 1) (by decide) dX12_ways_23 ?_
    try unfold C_X12_no at hf
    obtain ⟨⟨fs_r5, ha_r5⟩, hf⟩ := hf
    refine r_invVI (t := 12) (As := [aI 1]) (dz := d) (mz := 0) (sz := 0) rfl wd_7_92 wd_7_94 wd_p_50 cf_X12_no (Nat.le_refl _) (Nat.zero_le _) (Nat.zero_le _) (cat_ok (Nat.le_of_ble_eq_true rfl)) rfl rfl ha_r5 dX12_ways_24 hf (fun r5 σ4 hk => ?_)
    replace hf := hk
    clear hk
    refine r_i2l (x := r5) dX12_ways_27 ?_
    exact r_sub [] rfl (b_X12_ways_28 hf)
  · replace hf := hf.2 hc
    refine r_aload_n (j := 0) rfl rfl dX12_ways_11 ?_
    refine r_aload_n (j := 0) rfl rfl dX12_ways_12 ?_
    try unfold C_X12_standNow at hf
    obtain ⟨⟨fs_r7, ha_r7⟩, hf⟩ := hf
    refine r_invVI (t := 12) (As := []) (dz := d) (mz := 0) (sz := 0) rfl wd_8_26 wd_8_28 wd_p_77 cf_X12_standNow (Nat.le_refl _) (Nat.zero_le _) (Nat.zero_le _) (cat_ok (Nat.le_of_ble_eq_true rfl)) rfl rfl ha_r7 dX12_ways_13 hf (fun r7 σ6 hk => ?_)
    replace hf := hk
    clear hk
    try unfold C_X12_waysFrom at hf
    obtain ⟨⟨fs_r9, ha_r9⟩, hf⟩ := hf
    refine r_invVJ (t := 12) (As := [aI r7]) (dz := d) (mz := 0) (sz := 0) rfl wd_8_128 wd_8_130 wd_p_88 cf_X12_waysFrom (Nat.le_refl _) (Nat.zero_le _) (Nat.zero_le _) (cat_ok (Nat.le_of_ble_eq_true rfl)) rfl rfl ha_r9 dX12_ways_16 hf (fun r9 σ8 hk => ?_)
    replace hf := hk
    clear hk
    refine r_goto (tgt := 28) (by decide) dX12_ways_19 ?_
    exact r_sub [] rfl (b_X12_ways_28 hf)
theorem m_X12_ways {l : Launch} {G : GG} {d : Nat} {v0 : Nat} {σ : Hp} {K : Int64 → Hp → Prop} (hr : rv σ v0 12) (hf : F_X12_ways l G d v0 σ K) : C_X12_ways l G (d + 1) v0 σ K := ⟨hr, Sp.of (by decide) (Nat.le_of_ble_eq_true rfl) (b_X12_ways_0 hf) rfl⟩
def F_X12_isHeap_48 (l : Launch) (G : GG) (d : Nat) (X17 : Nat → Bool → Int32 → Hp → Prop) (v0 : Nat) (v2 : Int32) (s0 : Bool) (σ : Hp) (K : Bool → Hp → Prop) : Prop :=
  X17 v0 s0 (v2 + 1) σ
set_option maxRecDepth 100000 in
set_option maxHeartbeats 4000000 in
theorem b_X12_isHeap_48 {l : Launch} {G : GG} {d : Nat} {X17 : Nat → Bool → Int32 → Hp → Prop} {v0 : Nat} {v2 : Int32} {s0 : Bool} {σ : Hp} {K : Bool → Hp → Prop} (hX17 : ∀ v0 v1 v2 σ, X17 v0 v1 v2 σ → Wd l G (d + 1) "CoinsLaidModel" yX12_isHeap cX12_isHeap 3 (some FieldType.boolean) 17 [(0, aR (some v0)), (1, aI (bi v1)), (2, aI v2)] [] σ 0 0 (xM (QZ K))) (hf : F_X12_isHeap_48 l G d X17 v0 v2 s0 σ K) : Wd l G (d + 1) "CoinsLaidModel" yX12_isHeap cX12_isHeap 3 (some FieldType.boolean) 48 [(0, aR (some v0)), (2, aI v2)] [aI (bi s0)] σ 0 0 (xM (QZ K)) := by
  unfold F_X12_isHeap_48 at hf
  refine r_istore_n (L' := [(1, aI (bi s0)), (0, aR (some v0)), (2, aI v2)]) rfl rfl (Nat.le_of_ble_eq_true rfl) dX12_isHeap_48 ?_
  refine r_iinc (j := 2) (w := (v2 + 1)) (L' := [(2, aI (v2 + 1)), (1, aI (bi s0)), (0, aR (some v0))]) rfl (by rfl) rfl (Nat.le_of_ble_eq_true rfl) dX12_isHeap_49 ?_
  refine r_goto (tgt := 17) (by decide) dX12_isHeap_52 ?_
  exact r_sub [2, 1, 0] rfl (hX17 _ _ _ _ hf)
def F_X12_isHeap_47 (l : Launch) (G : GG) (d : Nat) (X17 : Nat → Bool → Int32 → Hp → Prop) (v0 : Nat) (v2 : Int32) (σ : Hp) (K : Bool → Hp → Prop) : Prop :=
  F_X12_isHeap_48 l G d X17 v0 v2 false σ K
set_option maxRecDepth 100000 in
set_option maxHeartbeats 4000000 in
theorem b_X12_isHeap_47 {l : Launch} {G : GG} {d : Nat} {X17 : Nat → Bool → Int32 → Hp → Prop} {v0 : Nat} {v2 : Int32} {σ : Hp} {K : Bool → Hp → Prop} (hX17 : ∀ v0 v1 v2 σ, X17 v0 v1 v2 σ → Wd l G (d + 1) "CoinsLaidModel" yX12_isHeap cX12_isHeap 3 (some FieldType.boolean) 17 [(0, aR (some v0)), (1, aI (bi v1)), (2, aI v2)] [] σ 0 0 (xM (QZ K))) (hf : F_X12_isHeap_47 l G d X17 v0 v2 σ K) : Wd l G (d + 1) "CoinsLaidModel" yX12_isHeap cX12_isHeap 3 (some FieldType.boolean) 47 [(0, aR (some v0)), (2, aI v2)] [] σ 0 0 (xM (QZ K)) := by
  unfold F_X12_isHeap_47 at hf
  refine r_iconst (v := 0) (by decide) dX12_isHeap_47 ?_
  exact r_sub [0, 1] rfl (b_X12_isHeap_48 hX17 hf)
def F_X12_isHeap_17 (l : Launch) (G : GG) (d : Nat) (X17 : Nat → Bool → Int32 → Hp → Prop) (v0 : Nat) (v1 : Bool) (v2 : Int32) (σ : Hp) (K : Bool → Hp → Prop) : Prop :=
  fN σ v0 12 15 fun x1 =>
  gI σ x1 4 fun x2 =>
  ((x2 : Int32) ≤ (v2 : Int32) →
    K v1 σ) ∧
  (¬ (x2 : Int32) ≤ (v2 : Int32) →
    (v1 = false →
      F_X12_isHeap_47 l G d X17 v0 v2 σ K) ∧
    (v1 = true →
      fN σ v0 12 15 fun x3 =>
      gI σ x3 (33 + v2) fun x4 =>
      (¬ (x4 : Int32) = 0 →
        F_X12_isHeap_47 l G d X17 v0 v2 σ K) ∧
      ((x4 : Int32) = 0 →
        F_X12_isHeap_48 l G d X17 v0 v2 true σ K)))
set_option maxRecDepth 100000 in
set_option maxHeartbeats 4000000 in
theorem b_X12_isHeap_17 {l : Launch} {G : GG} {d : Nat} {X17 : Nat → Bool → Int32 → Hp → Prop} {v0 : Nat} {v1 : Bool} {v2 : Int32} {σ : Hp} {K : Bool → Hp → Prop} (hX17 : ∀ v0 v1 v2 σ, X17 v0 v1 v2 σ → Wd l G (d + 1) "CoinsLaidModel" yX12_isHeap cX12_isHeap 3 (some FieldType.boolean) 17 [(0, aR (some v0)), (1, aI (bi v1)), (2, aI v2)] [] σ 0 0 (xM (QZ K))) (hf : F_X12_isHeap_17 l G d X17 v0 v1 v2 σ K) : Wd l G (d + 1) "CoinsLaidModel" yX12_isHeap cX12_isHeap 3 (some FieldType.boolean) 17 [(0, aR (some v0)), (1, aI (bi v1)), (2, aI v2)] [] σ 0 0 (xM (QZ K)) := by
  unfold F_X12_isHeap_17 at hf
  refine r_iload_n (j := 2) rfl rfl dX12_isHeap_17 ?_
  refine r_aload_n (j := 0) rfl rfl dX12_isHeap_18 ?_
  obtain ⟨fs_x1, x1, ha_x1, hv_x1, hf⟩ := hf
  refine r_get (Cn := RX12) (Tt := TX12) (N := 42) (n := 15) rfl uw_X12 (Nat.le_of_ble_eq_true rfl) wd_6_201 ha_x1 hv_x1 dX12_isHeap_19 ?_
  refine r_iconst (v := 4) (by decide) dX12_isHeap_22 ?_
  obtain ⟨N_x2, f_x2, ha_x2, hi_x2, hf⟩ := hf
  refine r_iald ha_x2 hi_x2 dX12_isHeap_23 ?_
  generalize f_x2 (4 : Int32).toNatClampNeg = x2 at hf ⊢
  refine r_icmpge (x := v2) (y := x2) (tgt := 55) (by decide) dX12_isHeap_24 (fun hc => ?_) (fun hc => ?_)
  · replace hf := hf.1 hc
    refine r_iload_n (j := 1) rfl rfl dX12_isHeap_55 ?_
    exact r_zreturn (b := v1) rfl dX12_isHeap_56 rfl ⟨_, rfl, hf⟩
  · replace hf := hf.2 hc
    refine r_iload_n (j := 1) rfl rfl dX12_isHeap_27 ?_
    refine r_ifeqZ (b := v1) (tgt := 47) (by decide) dX12_isHeap_28 (fun hc => ?_) (fun hc => ?_)
    · replace hf := hf.1 hc
      exact r_sub [0, 2] rfl (b_X12_isHeap_47 hX17 hf)
    · replace hf := hf.2 hc
      refine r_aload_n (j := 0) rfl rfl dX12_isHeap_31 ?_
      obtain ⟨fs_x3, x3, ha_x3, hv_x3, hf⟩ := hf
      refine r_get (Cn := RX12) (Tt := TX12) (N := 42) (n := 15) rfl uw_X12 (Nat.le_of_ble_eq_true rfl) wd_6_201 ha_x3 hv_x3 dX12_isHeap_32 ?_
      refine r_bipush (v := 33) (by decide) dX12_isHeap_35 ?_
      refine r_iload_n (j := 2) rfl rfl dX12_isHeap_37 ?_
      refine r_iadd (x := 33) (y := v2) dX12_isHeap_38 ?_
      obtain ⟨N_x4, f_x4, ha_x4, hi_x4, hf⟩ := hf
      refine r_iald ha_x4 hi_x4 dX12_isHeap_39 ?_
      generalize f_x4 ((33 + v2) : Int32).toNatClampNeg = x4 at hf ⊢
      refine r_ifne (x := x4) (tgt := 47) (by decide) dX12_isHeap_40 (fun hc => ?_) (fun hc => ?_)
      · replace hf := hf.1 hc
        exact r_sub [0, 2] rfl (b_X12_isHeap_47 hX17 hf)
      · replace hf := hf.2 hc
        refine r_iconst (v := 1) (by decide) dX12_isHeap_43 ?_
        refine r_goto (tgt := 48) (by decide) dX12_isHeap_44 ?_
        exact r_sub [0, 2] rfl (b_X12_isHeap_48 hX17 hf)
def Z_X12_isHeap_17 (l : Launch) (G : GG) (d : Nat) (K : Bool → Hp → Prop) : Nat → Nat → Bool → Int32 → Hp → Prop
  | 0 => fun _ _ _ _ => False
  | n + 1 => fun v0 v1 v2 σ => F_X12_isHeap_17 l G d (Z_X12_isHeap_17 l G d K n) v0 v1 v2 σ K
theorem z_X12_isHeap_17 {l : Launch} {G : GG} {d : Nat} {K : Bool → Hp → Prop} : ∀ (n : Nat) v0 v1 v2 σ, Z_X12_isHeap_17 l G d K n v0 v1 v2 σ → Wd l G (d + 1) "CoinsLaidModel" yX12_isHeap cX12_isHeap 3 (some FieldType.boolean) 17 [(0, aR (some v0)), (1, aI (bi v1)), (2, aI v2)] [] σ 0 0 (xM (QZ K)) := by
  intro n
  induction n with
  | zero => intro v0 v1 v2 σ hf; exact hf.elim
  | succ n ih => intro v0 v1 v2 σ hf; exact b_X12_isHeap_17 ih hf
def F_X12_isHeap_14 (l : Launch) (G : GG) (d : Nat) (v0 : Nat) (s0 : Bool) (σ : Hp) (K : Bool → Hp → Prop) : Prop :=
  ∃ n, Z_X12_isHeap_17 l G d K n v0 s0 0 σ
set_option maxRecDepth 100000 in
set_option maxHeartbeats 4000000 in
theorem b_X12_isHeap_14 {l : Launch} {G : GG} {d : Nat} {v0 : Nat} {s0 : Bool} {σ : Hp} {K : Bool → Hp → Prop} (hf : F_X12_isHeap_14 l G d v0 s0 σ K) : Wd l G (d + 1) "CoinsLaidModel" yX12_isHeap cX12_isHeap 3 (some FieldType.boolean) 14 [(0, aR (some v0))] [aI (bi s0)] σ 0 0 (xM (QZ K)) := by
  unfold F_X12_isHeap_14 at hf
  refine r_istore_n (L' := [(1, aI (bi s0)), (0, aR (some v0))]) rfl rfl (Nat.le_of_ble_eq_true rfl) dX12_isHeap_14 ?_
  refine r_iconst (v := 0) (by decide) dX12_isHeap_15 ?_
  refine r_istore_n (L' := [(2, aI 0), (1, aI (bi s0)), (0, aR (some v0))]) rfl rfl (Nat.le_of_ble_eq_true rfl) dX12_isHeap_16 ?_
  obtain ⟨n, hf⟩ := hf
  exact r_sub [2, 1, 0] rfl (z_X12_isHeap_17 n _ _ _ _ hf)
def F_X12_isHeap (l : Launch) (G : GG) (d : Nat) (v0 : Nat) (σ : Hp) (K : Bool → Hp → Prop) : Prop :=
  fN σ v0 12 15 fun x5 =>
  gI σ x5 1 fun x6 =>
  (¬ (x6 : Int32) = 0 →
    F_X12_isHeap_14 l G d v0 false σ K) ∧
  ((x6 : Int32) = 0 →
    F_X12_isHeap_14 l G d v0 true σ K)
set_option maxRecDepth 100000 in
set_option maxHeartbeats 4000000 in
theorem b_X12_isHeap_0 {l : Launch} {G : GG} {d : Nat} {v0 : Nat} {σ : Hp} {K : Bool → Hp → Prop} (hf : F_X12_isHeap l G d v0 σ K) : Wd l G (d + 1) "CoinsLaidModel" yX12_isHeap cX12_isHeap 3 (some FieldType.boolean) 0 [(0, aR (some v0))] [] σ 0 0 (xM (QZ K)) := by
  unfold F_X12_isHeap at hf
  refine r_aload_n (j := 0) rfl rfl dX12_isHeap_0 ?_
  obtain ⟨fs_x5, x5, ha_x5, hv_x5, hf⟩ := hf
  refine r_get (Cn := RX12) (Tt := TX12) (N := 42) (n := 15) rfl uw_X12 (Nat.le_of_ble_eq_true rfl) wd_6_201 ha_x5 hv_x5 dX12_isHeap_1 ?_
  refine r_iconst (v := 1) (by decide) dX12_isHeap_4 ?_
  obtain ⟨N_x6, f_x6, ha_x6, hi_x6, hf⟩ := hf
  refine r_iald ha_x6 hi_x6 dX12_isHeap_5 ?_
  generalize f_x6 (1 : Int32).toNatClampNeg = x6 at hf ⊢
  refine r_ifne (x := x6) (tgt := 13) (by decide) dX12_isHeap_6 (fun hc => ?_) (fun hc => ?_)
  · replace hf := hf.1 hc
    refine r_iconst (v := 0) (by decide) dX12_isHeap_13 ?_
    exact r_sub [0] rfl (b_X12_isHeap_14 hf)
  · replace hf := hf.2 hc
    refine r_iconst (v := 1) (by decide) dX12_isHeap_9 ?_
    refine r_goto (tgt := 14) (by decide) dX12_isHeap_10 ?_
    exact r_sub [0] rfl (b_X12_isHeap_14 hf)
theorem m_X12_isHeap {l : Launch} {G : GG} {d : Nat} {v0 : Nat} {σ : Hp} {K : Bool → Hp → Prop} (hr : rv σ v0 12) (hf : F_X12_isHeap l G d v0 σ K) : C_X12_isHeap l G (d + 1) v0 σ K := ⟨hr, Sp.of (by decide) (Nat.le_of_ble_eq_true rfl) (b_X12_isHeap_0 hf) rfl⟩
def F_X12_grundyOf_78 (l : Launch) (G : GG) (d : Nat) (X21 : Nat → Int32 → Int32 → Int64 → Int32 → Hp → Prop) (v0 : Nat) (v1 : Int32) (v2 : Int32) (v3 : Int64) (v5 : Int32) (σ : Hp) (K : Int32 → Hp → Prop) : Prop :=
  X21 v0 v1 v2 v3 (v5 + 1) σ
set_option maxRecDepth 100000 in
set_option maxHeartbeats 4000000 in
theorem b_X12_grundyOf_78 {l : Launch} {G : GG} {d : Nat} {X21 : Nat → Int32 → Int32 → Int64 → Int32 → Hp → Prop} {v0 : Nat} {v1 : Int32} {v2 : Int32} {v3 : Int64} {v5 : Int32} {σ : Hp} {K : Int32 → Hp → Prop} (hX21 : ∀ v0 v1 v2 v3 v5 σ, X21 v0 v1 v2 v3 v5 σ → Wd l G (d + 1) "CoinsLaidModel" yX12_grundyOf cX12_grundyOf 6 (some FieldType.int) 21 [(0, aR (some v0)), (1, aI v1), (2, aI v2), (3, aJ v3), (5, aI v5)] [] σ 0 0 (xM (QI K))) (hf : F_X12_grundyOf_78 l G d X21 v0 v1 v2 v3 v5 σ K) : Wd l G (d + 1) "CoinsLaidModel" yX12_grundyOf cX12_grundyOf 6 (some FieldType.int) 78 [(0, aR (some v0)), (1, aI v1), (2, aI v2), (3, aJ v3), (5, aI v5)] [] σ 0 0 (xM (QI K)) := by
  unfold F_X12_grundyOf_78 at hf
  refine r_iinc (j := 4) (w := (v5 + 1)) (L' := [(5, aI (v5 + 1)), (0, aR (some v0)), (1, aI v1), (2, aI v2), (3, aJ v3)]) rfl (by rfl) rfl (Nat.le_of_ble_eq_true rfl) dX12_grundyOf_78 ?_
  refine r_goto (tgt := 21) (by decide) dX12_grundyOf_81 ?_
  exact r_sub [1, 2, 3, 4, 0] rfl (hX21 _ _ _ _ _ _ hf)
def F_X12_grundyOf_45 (l : Launch) (G : GG) (d : Nat) (X21 : Nat → Int32 → Int32 → Int64 → Int32 → Hp → Prop) (v0 : Nat) (v1 : Int32) (v2 : Int32) (v3 : Int64) (v5 : Int32) (σ : Hp) (K : Int32 → Hp → Prop) : Prop :=
  fN σ v0 12 15 fun x1 =>
  C_X12_isFree l G d v0 x1 v1 v5 σ fun r3 σ2 =>
  (r3 = false →
    F_X12_grundyOf_78 l G d X21 v0 v1 v2 v3 v5 σ2 K) ∧
  (r3 = true →
    fN σ2 v0 12 28 fun x4 =>
    gI σ2 x4 v5 fun x5 =>
    C_X12_grundyOf l G d v0 (v1 ||| x5) v2 σ2 fun r7 σ6 =>
    F_X12_grundyOf_78 l G d X21 v0 v1 v2 (v3 ||| ((1 : Int64) <<< ((r7 : Int32).toInt64 &&& 63))) v5 σ6 K)
set_option maxRecDepth 100000 in
set_option maxHeartbeats 4000000 in
theorem b_X12_grundyOf_45 {l : Launch} {G : GG} {d : Nat} {X21 : Nat → Int32 → Int32 → Int64 → Int32 → Hp → Prop} {v0 : Nat} {v1 : Int32} {v2 : Int32} {v3 : Int64} {v5 : Int32} {σ : Hp} {K : Int32 → Hp → Prop} (hX21 : ∀ v0 v1 v2 v3 v5 σ, X21 v0 v1 v2 v3 v5 σ → Wd l G (d + 1) "CoinsLaidModel" yX12_grundyOf cX12_grundyOf 6 (some FieldType.int) 21 [(0, aR (some v0)), (1, aI v1), (2, aI v2), (3, aJ v3), (5, aI v5)] [] σ 0 0 (xM (QI K))) (hf : F_X12_grundyOf_45 l G d X21 v0 v1 v2 v3 v5 σ K) : Wd l G (d + 1) "CoinsLaidModel" yX12_grundyOf cX12_grundyOf 6 (some FieldType.int) 45 [(0, aR (some v0)), (1, aI v1), (2, aI v2), (3, aJ v3), (5, aI v5)] [] σ 0 0 (xM (QI K)) := by
  unfold F_X12_grundyOf_45 at hf
  refine r_aload_n (j := 0) rfl rfl dX12_grundyOf_45 ?_
  refine r_aload_n (j := 0) rfl rfl dX12_grundyOf_46 ?_
  obtain ⟨fs_x1, x1, ha_x1, hv_x1, hf⟩ := hf
  refine r_get (Cn := RX12) (Tt := TX12) (N := 42) (n := 15) rfl uw_X12 (Nat.le_of_ble_eq_true rfl) wd_6_201 ha_x1 hv_x1 dX12_grundyOf_47 ?_
  refine r_iload_n (j := 1) rfl rfl dX12_grundyOf_50 ?_
  refine r_iload (j := 4) rfl dX12_grundyOf_51 ?_
  try unfold C_X12_isFree at hf
  obtain ⟨⟨fs_r3, ha_r3⟩, hf⟩ := hf
  refine r_invVZ (t := 12) (As := [aR (some x1), aI v1, aI v5]) (dz := d) (mz := 0) (sz := 0) rfl wd_7_226 wd_7_228 wd_p_73 cf_X12_isFree (Nat.le_refl _) (Nat.zero_le _) (Nat.zero_le _) (cat_ok (Nat.le_of_ble_eq_true rfl)) rfl rfl ha_r3 dX12_grundyOf_53 hf (fun r3 σ2 hk => ?_)
  replace hf := hk
  clear hk
  refine r_ifeqZ (b := r3) (tgt := 78) (by decide) dX12_grundyOf_56 (fun hc => ?_) (fun hc => ?_)
  · replace hf := hf.1 hc
    exact r_sub [0, 1, 2, 3, 4] rfl (b_X12_grundyOf_78 hX21 hf)
  · replace hf := hf.2 hc
    refine r_lload_n (j := 3) rfl rfl dX12_grundyOf_59 ?_
    refine r_lconst (v := 1) (by decide) dX12_grundyOf_60 ?_
    refine r_aload_n (j := 0) rfl rfl dX12_grundyOf_61 ?_
    refine r_iload_n (j := 1) rfl rfl dX12_grundyOf_62 ?_
    refine r_aload_n (j := 0) rfl rfl dX12_grundyOf_63 ?_
    obtain ⟨fs_x4, x4, ha_x4, hv_x4, hf⟩ := hf
    refine r_get (Cn := RX12) (Tt := TX12) (N := 42) (n := 28) rfl uw_X12 (Nat.le_of_ble_eq_true rfl) wd_6_214 ha_x4 hv_x4 dX12_grundyOf_64 ?_
    refine r_iload (j := 4) rfl dX12_grundyOf_67 ?_
    obtain ⟨N_x5, f_x5, ha_x5, hi_x5, hf⟩ := hf
    refine r_iald ha_x5 hi_x5 dX12_grundyOf_69 ?_
    generalize f_x5 (v5 : Int32).toNatClampNeg = x5 at hf ⊢
    refine r_ior (x := v1) (y := x5) dX12_grundyOf_70 ?_
    refine r_iload_n (j := 2) rfl rfl dX12_grundyOf_71 ?_
    try unfold C_X12_grundyOf at hf
    obtain ⟨⟨fs_r7, ha_r7⟩, hf⟩ := hf
    refine r_invVI (t := 12) (As := [aI (v1 ||| x5), aI v2]) (dz := d) (mz := 0) (sz := 0) rfl wd_8_145 wd_8_147 wd_p_91 cf_X12_grundyOf (Nat.le_refl _) (Nat.zero_le _) (Nat.zero_le _) (cat_ok (Nat.le_of_ble_eq_true rfl)) rfl rfl ha_r7 dX12_grundyOf_72 hf (fun r7 σ6 hk => ?_)
    replace hf := hk
    clear hk
    refine r_lshl (x := (1 : Int64)) (y := r7) dX12_grundyOf_75 ?_
    refine r_lor (x := v3) (y := ((1 : Int64) <<< ((r7 : Int32).toInt64 &&& 63))) dX12_grundyOf_76 ?_
    refine r_lstore_n (L' := [(3, aJ (v3 ||| ((1 : Int64) <<< ((r7 : Int32).toInt64 &&& 63)))), (0, aR (some v0)), (1, aI v1), (2, aI v2), (5, aI v5)]) rfl rfl (Nat.le_of_ble_eq_true rfl) dX12_grundyOf_77 ?_
    exact r_sub [1, 2, 3, 0, 4] rfl (b_X12_grundyOf_78 hX21 hf)
def F_X12_grundyOf_87 (l : Launch) (G : GG) (d : Nat) (X87 : Nat → Int32 → Int64 → Int32 → Hp → Prop) (v0 : Nat) (v1 : Int32) (v3 : Int64) (v5 : Int32) (σ : Hp) (K : Int32 → Hp → Prop) : Prop :=
  (¬ ((lg_cmp ((v3 >>> ((v5 : Int32).toInt64 &&& 63)) &&& (1 : Int64)) (1 : Int64)) : Int32) = 0 →
    fN σ v0 12 36 fun x8 =>
    sI σ x8 v1 v5 fun σ9 =>
    K v5 σ9) ∧
  (((lg_cmp ((v3 >>> ((v5 : Int32).toInt64 &&& 63)) &&& (1 : Int64)) (1 : Int64)) : Int32) = 0 →
    X87 v0 v1 v3 (v5 + 1) σ)
set_option maxRecDepth 100000 in
set_option maxHeartbeats 4000000 in
theorem b_X12_grundyOf_87 {l : Launch} {G : GG} {d : Nat} {X87 : Nat → Int32 → Int64 → Int32 → Hp → Prop} {v0 : Nat} {v1 : Int32} {v3 : Int64} {v5 : Int32} {σ : Hp} {K : Int32 → Hp → Prop} (hX87 : ∀ v0 v1 v3 v5 σ, X87 v0 v1 v3 v5 σ → Wd l G (d + 1) "CoinsLaidModel" yX12_grundyOf cX12_grundyOf 6 (some FieldType.int) 87 [(0, aR (some v0)), (1, aI v1), (3, aJ v3), (5, aI v5)] [] σ 0 0 (xM (QI K))) (hf : F_X12_grundyOf_87 l G d X87 v0 v1 v3 v5 σ K) : Wd l G (d + 1) "CoinsLaidModel" yX12_grundyOf cX12_grundyOf 6 (some FieldType.int) 87 [(0, aR (some v0)), (1, aI v1), (3, aJ v3), (5, aI v5)] [] σ 0 0 (xM (QI K)) := by
  unfold F_X12_grundyOf_87 at hf
  refine r_lload_n (j := 2) rfl rfl dX12_grundyOf_87 ?_
  refine r_iload (j := 3) rfl dX12_grundyOf_88 ?_
  refine r_lshr (x := v3) (y := v5) dX12_grundyOf_90 ?_
  refine r_lconst (v := 1) (by decide) dX12_grundyOf_91 ?_
  refine r_land (x := (v3 >>> ((v5 : Int32).toInt64 &&& 63))) (y := (1 : Int64)) dX12_grundyOf_92 ?_
  refine r_lconst (v := 1) (by decide) dX12_grundyOf_93 ?_
  refine r_lcmp (x := ((v3 >>> ((v5 : Int32).toInt64 &&& 63)) &&& (1 : Int64))) (y := (1 : Int64)) dX12_grundyOf_94 ?_
  refine r_ifne (x := (lg_cmp ((v3 >>> ((v5 : Int32).toInt64 &&& 63)) &&& (1 : Int64)) (1 : Int64))) (tgt := 104) (by decide) dX12_grundyOf_95 (fun hc => ?_) (fun hc => ?_)
  · replace hf := hf.1 hc
    refine r_aload_n (j := 0) rfl rfl dX12_grundyOf_104 ?_
    obtain ⟨fs_x8, x8, ha_x8, hv_x8, hf⟩ := hf
    refine r_get (Cn := RX12) (Tt := TX12) (N := 42) (n := 36) rfl uw_X12 (Nat.le_of_ble_eq_true rfl) wd_6_222 ha_x8 hv_x8 dX12_grundyOf_105 ?_
    refine r_iload_n (j := 1) rfl rfl dX12_grundyOf_108 ?_
    refine r_iload (j := 3) rfl dX12_grundyOf_109 ?_
    obtain ⟨N_x10, f_x10, ha_x10, hi_x10, hf⟩ := hf
    generalize hσ9 : hset σ x8 (iA N_x10 (up_ f_x10 (v1 : Int32).toNatClampNeg v5)) = σ9 at hf
    refine r_iast (f := f_x10) (x := v5) ha_x10 hi_x10 dX12_grundyOf_111 ?_
    refine Eq.mpr (congrArg (fun z => Wd _ _ _ _ _ _ _ _ _ _ _ z _ _ _) hσ9) ?_
    refine r_iload (j := 3) rfl dX12_grundyOf_112 ?_
    exact r_ireturn rfl dX12_grundyOf_114 rfl ⟨_, rfl, hf⟩
  · replace hf := hf.2 hc
    refine r_iinc (j := 3) (w := (v5 + 1)) (L' := [(5, aI (v5 + 1)), (0, aR (some v0)), (1, aI v1), (3, aJ v3)]) rfl (by rfl) rfl (Nat.le_of_ble_eq_true rfl) dX12_grundyOf_98 ?_
    refine r_goto (tgt := 87) (by decide) dX12_grundyOf_101 ?_
    exact r_sub [1, 2, 3, 0] rfl (hX87 _ _ _ _ _ hf)
def Z_X12_grundyOf_87 (l : Launch) (G : GG) (d : Nat) (K : Int32 → Hp → Prop) : Nat → Nat → Int32 → Int64 → Int32 → Hp → Prop
  | 0 => fun _ _ _ _ _ => False
  | n + 1 => fun v0 v1 v3 v5 σ => F_X12_grundyOf_87 l G d (Z_X12_grundyOf_87 l G d K n) v0 v1 v3 v5 σ K
theorem z_X12_grundyOf_87 {l : Launch} {G : GG} {d : Nat} {K : Int32 → Hp → Prop} : ∀ (n : Nat) v0 v1 v3 v5 σ, Z_X12_grundyOf_87 l G d K n v0 v1 v3 v5 σ → Wd l G (d + 1) "CoinsLaidModel" yX12_grundyOf cX12_grundyOf 6 (some FieldType.int) 87 [(0, aR (some v0)), (1, aI v1), (3, aJ v3), (5, aI v5)] [] σ 0 0 (xM (QI K)) := by
  intro n
  induction n with
  | zero => intro v0 v1 v3 v5 σ hf; exact hf.elim
  | succ n ih => intro v0 v1 v3 v5 σ hf; exact b_X12_grundyOf_87 ih hf
def F_X12_grundyOf_21 (l : Launch) (G : GG) (d : Nat) (X21 : Nat → Int32 → Int32 → Int64 → Int32 → Hp → Prop) (v0 : Nat) (v1 : Int32) (v2 : Int32) (v3 : Int64) (v5 : Int32) (σ : Hp) (K : Int32 → Hp → Prop) : Prop :=
  fI σ v0 12 30 fun x11 =>
  ((x11 : Int32) ≤ (v5 : Int32) →
    ∃ n, Z_X12_grundyOf_87 l G d K n v0 v1 v3 0 σ) ∧
  (¬ (x11 : Int32) ≤ (v5 : Int32) →
    ((v2 : Int32) < 0 →
      F_X12_grundyOf_45 l G d X21 v0 v1 v2 v3 v5 σ K) ∧
    (¬ (v2 : Int32) < 0 →
      fN σ v0 12 24 fun x12 =>
      gI σ x12 v5 fun x13 =>
      (¬ (x13 : Int32) = (v2 : Int32) →
        F_X12_grundyOf_78 l G d X21 v0 v1 v2 v3 v5 σ K) ∧
      ((x13 : Int32) = (v2 : Int32) →
        F_X12_grundyOf_45 l G d X21 v0 v1 v2 v3 v5 σ K)))
set_option maxRecDepth 100000 in
set_option maxHeartbeats 4000000 in
theorem b_X12_grundyOf_21 {l : Launch} {G : GG} {d : Nat} {X21 : Nat → Int32 → Int32 → Int64 → Int32 → Hp → Prop} {v0 : Nat} {v1 : Int32} {v2 : Int32} {v3 : Int64} {v5 : Int32} {σ : Hp} {K : Int32 → Hp → Prop} (hX21 : ∀ v0 v1 v2 v3 v5 σ, X21 v0 v1 v2 v3 v5 σ → Wd l G (d + 1) "CoinsLaidModel" yX12_grundyOf cX12_grundyOf 6 (some FieldType.int) 21 [(0, aR (some v0)), (1, aI v1), (2, aI v2), (3, aJ v3), (5, aI v5)] [] σ 0 0 (xM (QI K))) (hf : F_X12_grundyOf_21 l G d X21 v0 v1 v2 v3 v5 σ K) : Wd l G (d + 1) "CoinsLaidModel" yX12_grundyOf cX12_grundyOf 6 (some FieldType.int) 21 [(0, aR (some v0)), (1, aI v1), (2, aI v2), (3, aJ v3), (5, aI v5)] [] σ 0 0 (xM (QI K)) := by
  unfold F_X12_grundyOf_21 at hf
  refine r_iload (j := 4) rfl dX12_grundyOf_21 ?_
  refine r_aload_n (j := 0) rfl rfl dX12_grundyOf_23 ?_
  obtain ⟨fs_x11, x11, ha_x11, hv_x11, hf⟩ := hf
  refine r_get (Cn := RX12) (Tt := TX12) (N := 42) (n := 30) rfl uw_X12 (Nat.le_of_ble_eq_true rfl) wd_6_216 ha_x11 hv_x11 dX12_grundyOf_24 ?_
  refine r_icmpge (x := v5) (y := x11) (tgt := 84) (by decide) dX12_grundyOf_27 (fun hc => ?_) (fun hc => ?_)
  · replace hf := hf.1 hc
    refine r_iconst (v := 0) (by decide) dX12_grundyOf_84 ?_
    refine r_istore (L' := [(5, aI 0), (0, aR (some v0)), (1, aI v1), (2, aI v2), (3, aJ v3)]) rfl (Nat.le_of_ble_eq_true rfl) dX12_grundyOf_85 ?_
    obtain ⟨n, hf⟩ := hf
    exact r_sub [1, 2, 4, 0] rfl (z_X12_grundyOf_87 n _ _ _ _ _ hf)
  · replace hf := hf.2 hc
    refine r_iload_n (j := 2) rfl rfl dX12_grundyOf_30 ?_
    refine r_iflt (x := v2) (tgt := 45) (by decide) dX12_grundyOf_31 (fun hc => ?_) (fun hc => ?_)
    · replace hf := hf.1 hc
      exact r_sub [0, 1, 2, 3, 4] rfl (b_X12_grundyOf_45 hX21 hf)
    · replace hf := hf.2 hc
      refine r_aload_n (j := 0) rfl rfl dX12_grundyOf_34 ?_
      obtain ⟨fs_x12, x12, ha_x12, hv_x12, hf⟩ := hf
      refine r_get (Cn := RX12) (Tt := TX12) (N := 42) (n := 24) rfl uw_X12 (Nat.le_of_ble_eq_true rfl) wd_6_210 ha_x12 hv_x12 dX12_grundyOf_35 ?_
      refine r_iload (j := 4) rfl dX12_grundyOf_38 ?_
      obtain ⟨N_x13, f_x13, ha_x13, hi_x13, hf⟩ := hf
      refine r_iald ha_x13 hi_x13 dX12_grundyOf_40 ?_
      generalize f_x13 (v5 : Int32).toNatClampNeg = x13 at hf ⊢
      refine r_iload_n (j := 2) rfl rfl dX12_grundyOf_41 ?_
      refine r_icmpne (x := x13) (y := v2) (tgt := 78) (by decide) dX12_grundyOf_42 (fun hc => ?_) (fun hc => ?_)
      · replace hf := hf.1 hc
        exact r_sub [0, 1, 2, 3, 4] rfl (b_X12_grundyOf_78 hX21 hf)
      · replace hf := hf.2 hc
        exact r_sub [0, 1, 2, 3, 4] rfl (b_X12_grundyOf_45 hX21 hf)
def Z_X12_grundyOf_21 (l : Launch) (G : GG) (d : Nat) (K : Int32 → Hp → Prop) : Nat → Nat → Int32 → Int32 → Int64 → Int32 → Hp → Prop
  | 0 => fun _ _ _ _ _ _ => False
  | n + 1 => fun v0 v1 v2 v3 v5 σ => F_X12_grundyOf_21 l G d (Z_X12_grundyOf_21 l G d K n) v0 v1 v2 v3 v5 σ K
theorem z_X12_grundyOf_21 {l : Launch} {G : GG} {d : Nat} {K : Int32 → Hp → Prop} : ∀ (n : Nat) v0 v1 v2 v3 v5 σ, Z_X12_grundyOf_21 l G d K n v0 v1 v2 v3 v5 σ → Wd l G (d + 1) "CoinsLaidModel" yX12_grundyOf cX12_grundyOf 6 (some FieldType.int) 21 [(0, aR (some v0)), (1, aI v1), (2, aI v2), (3, aJ v3), (5, aI v5)] [] σ 0 0 (xM (QI K)) := by
  intro n
  induction n with
  | zero => intro v0 v1 v2 v3 v5 σ hf; exact hf.elim
  | succ n ih => intro v0 v1 v2 v3 v5 σ hf; exact b_X12_grundyOf_21 ih hf
def F_X12_grundyOf (l : Launch) (G : GG) (d : Nat) (v0 : Nat) (v1 : Int32) (v2 : Int32) (σ : Hp) (K : Int32 → Hp → Prop) : Prop :=
  fN σ v0 12 36 fun x14 =>
  gI σ x14 v1 fun x15 =>
  ((x15 : Int32) < 0 →
    ∃ n, Z_X12_grundyOf_21 l G d K n v0 v1 v2 (0 : Int64) 0 σ) ∧
  (¬ (x15 : Int32) < 0 →
    fN σ v0 12 36 fun x16 =>
    gI σ x16 v1 fun x17 =>
    K x17 σ)
set_option maxRecDepth 100000 in
set_option maxHeartbeats 4000000 in
theorem b_X12_grundyOf_0 {l : Launch} {G : GG} {d : Nat} {v0 : Nat} {v1 : Int32} {v2 : Int32} {σ : Hp} {K : Int32 → Hp → Prop} (hf : F_X12_grundyOf l G d v0 v1 v2 σ K) : Wd l G (d + 1) "CoinsLaidModel" yX12_grundyOf cX12_grundyOf 6 (some FieldType.int) 0 [(0, aR (some v0)), (1, aI v1), (2, aI v2)] [] σ 0 0 (xM (QI K)) := by
  unfold F_X12_grundyOf at hf
  refine r_aload_n (j := 0) rfl rfl dX12_grundyOf_0 ?_
  obtain ⟨fs_x14, x14, ha_x14, hv_x14, hf⟩ := hf
  refine r_get (Cn := RX12) (Tt := TX12) (N := 42) (n := 36) rfl uw_X12 (Nat.le_of_ble_eq_true rfl) wd_6_222 ha_x14 hv_x14 dX12_grundyOf_1 ?_
  refine r_iload_n (j := 1) rfl rfl dX12_grundyOf_4 ?_
  obtain ⟨N_x15, f_x15, ha_x15, hi_x15, hf⟩ := hf
  refine r_iald ha_x15 hi_x15 dX12_grundyOf_5 ?_
  generalize f_x15 (v1 : Int32).toNatClampNeg = x15 at hf ⊢
  refine r_iflt (x := x15) (tgt := 16) (by decide) dX12_grundyOf_6 (fun hc => ?_) (fun hc => ?_)
  · replace hf := hf.1 hc
    refine r_lconst (v := 0) (by decide) dX12_grundyOf_16 ?_
    refine r_lstore_n (L' := [(3, aJ (0 : Int64)), (0, aR (some v0)), (1, aI v1), (2, aI v2)]) rfl rfl (Nat.le_of_ble_eq_true rfl) dX12_grundyOf_17 ?_
    refine r_iconst (v := 0) (by decide) dX12_grundyOf_18 ?_
    refine r_istore (L' := [(5, aI 0), (3, aJ (0 : Int64)), (0, aR (some v0)), (1, aI v1), (2, aI v2)]) rfl (Nat.le_of_ble_eq_true rfl) dX12_grundyOf_19 ?_
    obtain ⟨n, hf⟩ := hf
    exact r_sub [2, 3, 4, 1, 0] rfl (z_X12_grundyOf_21 n _ _ _ _ _ _ hf)
  · replace hf := hf.2 hc
    refine r_aload_n (j := 0) rfl rfl dX12_grundyOf_9 ?_
    obtain ⟨fs_x16, x16, ha_x16, hv_x16, hf⟩ := hf
    refine r_get (Cn := RX12) (Tt := TX12) (N := 42) (n := 36) rfl uw_X12 (Nat.le_of_ble_eq_true rfl) wd_6_222 ha_x16 hv_x16 dX12_grundyOf_10 ?_
    refine r_iload_n (j := 1) rfl rfl dX12_grundyOf_13 ?_
    obtain ⟨N_x17, f_x17, ha_x17, hi_x17, hf⟩ := hf
    refine r_iald ha_x17 hi_x17 dX12_grundyOf_14 ?_
    generalize f_x17 (v1 : Int32).toNatClampNeg = x17 at hf ⊢
    exact r_ireturn rfl dX12_grundyOf_15 rfl ⟨_, rfl, hf⟩
theorem m_X12_grundyOf {l : Launch} {G : GG} {d : Nat} {v0 : Nat} {v1 : Int32} {v2 : Int32} {σ : Hp} {K : Int32 → Hp → Prop} (hr : rv σ v0 12) (hf : F_X12_grundyOf l G d v0 v1 v2 σ K) : C_X12_grundyOf l G (d + 1) v0 v1 v2 σ K := ⟨hr, Sp.of (by decide) (Nat.le_of_ble_eq_true rfl) (b_X12_grundyOf_0 hf) rfl⟩
def F_X12_squaresOf (l : Launch) (G : GG) (d : Nat) (v0 : Nat) (v1 : Int32) (σ : Hp) (K : Int32 → Hp → Prop) : Prop :=
  fN σ v0 12 15 fun x1 =>
  gI σ x1 (7 + v1) fun x2 =>
  fN σ v0 12 15 fun x3 =>
  gI σ x3 (10 + v1) fun x4 =>
  fN σ v0 12 15 fun x5 =>
  gI σ x5 (13 + v1) fun x6 =>
  K (((1 <<< ((x2 * x4) &&& 31)) - 1) <<< (x6 &&& 31)) σ
set_option maxRecDepth 100000 in
set_option maxHeartbeats 4000000 in
theorem b_X12_squaresOf_0 {l : Launch} {G : GG} {d : Nat} {v0 : Nat} {v1 : Int32} {σ : Hp} {K : Int32 → Hp → Prop} (hf : F_X12_squaresOf l G d v0 v1 σ K) : Wd l G (d + 1) "CoinsLaidModel" yX12_squaresOf cX12_squaresOf 2 (some FieldType.int) 0 [(0, aR (some v0)), (1, aI v1)] [] σ 0 0 (xM (QI K)) := by
  unfold F_X12_squaresOf at hf
  refine r_iconst (v := 1) (by decide) dX12_squaresOf_0 ?_
  refine r_aload_n (j := 0) rfl rfl dX12_squaresOf_1 ?_
  obtain ⟨fs_x1, x1, ha_x1, hv_x1, hf⟩ := hf
  refine r_get (Cn := RX12) (Tt := TX12) (N := 42) (n := 15) rfl uw_X12 (Nat.le_of_ble_eq_true rfl) wd_6_201 ha_x1 hv_x1 dX12_squaresOf_2 ?_
  refine r_bipush (v := 7) (by decide) dX12_squaresOf_5 ?_
  refine r_iload_n (j := 1) rfl rfl dX12_squaresOf_7 ?_
  refine r_iadd (x := 7) (y := v1) dX12_squaresOf_8 ?_
  obtain ⟨N_x2, f_x2, ha_x2, hi_x2, hf⟩ := hf
  refine r_iald ha_x2 hi_x2 dX12_squaresOf_9 ?_
  generalize f_x2 ((7 + v1) : Int32).toNatClampNeg = x2 at hf ⊢
  refine r_aload_n (j := 0) rfl rfl dX12_squaresOf_10 ?_
  obtain ⟨fs_x3, x3, ha_x3, hv_x3, hf⟩ := hf
  refine r_get (Cn := RX12) (Tt := TX12) (N := 42) (n := 15) rfl uw_X12 (Nat.le_of_ble_eq_true rfl) wd_6_201 ha_x3 hv_x3 dX12_squaresOf_11 ?_
  refine r_bipush (v := 10) (by decide) dX12_squaresOf_14 ?_
  refine r_iload_n (j := 1) rfl rfl dX12_squaresOf_16 ?_
  refine r_iadd (x := 10) (y := v1) dX12_squaresOf_17 ?_
  obtain ⟨N_x4, f_x4, ha_x4, hi_x4, hf⟩ := hf
  refine r_iald ha_x4 hi_x4 dX12_squaresOf_18 ?_
  generalize f_x4 ((10 + v1) : Int32).toNatClampNeg = x4 at hf ⊢
  refine r_imul (x := x2) (y := x4) dX12_squaresOf_19 ?_
  refine r_ishl (x := 1) (y := (x2 * x4)) dX12_squaresOf_20 ?_
  refine r_iconst (v := 1) (by decide) dX12_squaresOf_21 ?_
  refine r_isub (x := (1 <<< ((x2 * x4) &&& 31))) (y := 1) dX12_squaresOf_22 ?_
  refine r_aload_n (j := 0) rfl rfl dX12_squaresOf_23 ?_
  obtain ⟨fs_x5, x5, ha_x5, hv_x5, hf⟩ := hf
  refine r_get (Cn := RX12) (Tt := TX12) (N := 42) (n := 15) rfl uw_X12 (Nat.le_of_ble_eq_true rfl) wd_6_201 ha_x5 hv_x5 dX12_squaresOf_24 ?_
  refine r_bipush (v := 13) (by decide) dX12_squaresOf_27 ?_
  refine r_iload_n (j := 1) rfl rfl dX12_squaresOf_29 ?_
  refine r_iadd (x := 13) (y := v1) dX12_squaresOf_30 ?_
  obtain ⟨N_x6, f_x6, ha_x6, hi_x6, hf⟩ := hf
  refine r_iald ha_x6 hi_x6 dX12_squaresOf_31 ?_
  generalize f_x6 ((13 + v1) : Int32).toNatClampNeg = x6 at hf ⊢
  refine r_ishl (x := ((1 <<< ((x2 * x4) &&& 31)) - 1)) (y := x6) dX12_squaresOf_32 ?_
  exact r_ireturn rfl dX12_squaresOf_33 rfl ⟨_, rfl, hf⟩
theorem m_X12_squaresOf {l : Launch} {G : GG} {d : Nat} {v0 : Nat} {v1 : Int32} {σ : Hp} {K : Int32 → Hp → Prop} (hr : rv σ v0 12) (hf : F_X12_squaresOf l G d v0 v1 σ K) : C_X12_squaresOf l G (d + 1) v0 v1 σ K := ⟨hr, Sp.of (by decide) (Nat.le_of_ble_eq_true rfl) (b_X12_squaresOf_0 hf) rfl⟩
def F_X12_heap_24 (l : Launch) (G : GG) (d : Nat) (v0 : Nat) (σ : Hp) (K : Int32 → Hp → Prop) : Prop :=
  C_X12_no l G d v0 1 σ fun r2 σ1 =>
  K r2 σ1
set_option maxRecDepth 100000 in
set_option maxHeartbeats 4000000 in
theorem b_X12_heap_24 {l : Launch} {G : GG} {d : Nat} {v0 : Nat} {σ : Hp} {K : Int32 → Hp → Prop} (hf : F_X12_heap_24 l G d v0 σ K) : Wd l G (d + 1) "CoinsLaidModel" yX12_heap cX12_heap 3 (some FieldType.int) 24 [(0, aR (some v0))] [] σ 0 0 (xM (QI K)) := by
  unfold F_X12_heap_24 at hf
  refine r_aload_n (j := 0) rfl rfl dX12_heap_24 ?_
  refine r_iconst (v := 1) (by decide) dX12_heap_25 ?_
  try unfold C_X12_no at hf
  obtain ⟨⟨fs_r2, ha_r2⟩, hf⟩ := hf
  refine r_invVI (t := 12) (As := [aI 1]) (dz := d) (mz := 0) (sz := 0) rfl wd_7_92 wd_7_94 wd_p_50 cf_X12_no (Nat.le_refl _) (Nat.zero_le _) (Nat.zero_le _) (cat_ok (Nat.le_of_ble_eq_true rfl)) rfl rfl ha_r2 dX12_heap_26 hf (fun r2 σ1 hk => ?_)
  replace hf := hk
  clear hk
  exact r_ireturn rfl dX12_heap_29 rfl ⟨_, rfl, hf⟩
def F_X12_heap_89 (l : Launch) (G : GG) (d : Nat) (v1 : Int32) (s0 : Nat) (s1 : Int32) (σ : Hp) (K : Int32 → Hp → Prop) : Prop :=
  C_X12_grundyOf l G d s0 s1 v1 σ fun r4 σ3 =>
  K r4 σ3
set_option maxRecDepth 100000 in
set_option maxHeartbeats 4000000 in
theorem b_X12_heap_89 {l : Launch} {G : GG} {d : Nat} {v1 : Int32} {s0 : Nat} {s1 : Int32} {σ : Hp} {K : Int32 → Hp → Prop} (hf : F_X12_heap_89 l G d v1 s0 s1 σ K) : Wd l G (d + 1) "CoinsLaidModel" yX12_heap cX12_heap 3 (some FieldType.int) 89 [(1, aI v1)] [aI s1, aR (some s0)] σ 0 0 (xM (QI K)) := by
  unfold F_X12_heap_89 at hf
  refine r_iload_n (j := 0) rfl rfl dX12_heap_89 ?_
  try unfold C_X12_grundyOf at hf
  obtain ⟨⟨fs_r4, ha_r4⟩, hf⟩ := hf
  refine r_invVI (t := 12) (As := [aI s1, aI v1]) (dz := d) (mz := 0) (sz := 0) rfl wd_8_145 wd_8_147 wd_p_91 cf_X12_grundyOf (Nat.le_refl _) (Nat.zero_le _) (Nat.zero_le _) (cat_ok (Nat.le_of_ble_eq_true rfl)) rfl rfl ha_r4 dX12_heap_90 hf (fun r4 σ3 hk => ?_)
  replace hf := hk
  clear hk
  exact r_ireturn rfl dX12_heap_93 rfl ⟨_, rfl, hf⟩
def F_X12_heap_45 (l : Launch) (G : GG) (d : Nat) (X45 : Nat → Int32 → Int32 → Hp → Prop) (v0 : Nat) (v1 : Int32) (v2 : Int32) (σ : Hp) (K : Int32 → Hp → Prop) : Prop :=
  ((32768 : Int32) ≤ (v2 : Int32) →
    C_X12_standNow l G d v0 σ fun r6 σ5 =>
    C_X12_takenOf l G d r6 σ5 fun r8 σ7 =>
    (¬ (v1 : Int32) = ((-1) : Int32) →
      C_X12_squaresOf l G d v0 v1 σ7 fun r10 σ9 =>
      F_X12_heap_89 l G d v1 v0 (r8 &&& r10) σ9 K) ∧
    ((v1 : Int32) = ((-1) : Int32) →
      F_X12_heap_89 l G d v1 v0 r8 σ7 K)) ∧
  (¬ (32768 : Int32) ≤ (v2 : Int32) →
    fN σ v0 12 36 fun x11 =>
    sI σ x11 v2 (-1) fun σ12 =>
    X45 v0 v1 (v2 + 1) σ12)
set_option maxRecDepth 100000 in
set_option maxHeartbeats 4000000 in
theorem b_X12_heap_45 {l : Launch} {G : GG} {d : Nat} {X45 : Nat → Int32 → Int32 → Hp → Prop} {v0 : Nat} {v1 : Int32} {v2 : Int32} {σ : Hp} {K : Int32 → Hp → Prop} (hX45 : ∀ v0 v1 v2 σ, X45 v0 v1 v2 σ → Wd l G (d + 1) "CoinsLaidModel" yX12_heap cX12_heap 3 (some FieldType.int) 45 [(0, aR (some v0)), (1, aI v1), (2, aI v2)] [] σ 0 0 (xM (QI K))) (hf : F_X12_heap_45 l G d X45 v0 v1 v2 σ K) : Wd l G (d + 1) "CoinsLaidModel" yX12_heap cX12_heap 3 (some FieldType.int) 45 [(0, aR (some v0)), (1, aI v1), (2, aI v2)] [] σ 0 0 (xM (QI K)) := by
  unfold F_X12_heap_45 at hf
  refine r_iload_n (j := 2) rfl rfl dX12_heap_45 ?_
  refine r_ldc wd_6_185 dX12_heap_46 ?_
  refine r_icmpge (x := v2) (y := 32768) (tgt := 64) (by decide) dX12_heap_48 (fun hc => ?_) (fun hc => ?_)
  · replace hf := hf.1 hc
    refine r_aload_n (j := 0) rfl rfl dX12_heap_64 ?_
    try unfold C_X12_standNow at hf
    obtain ⟨⟨fs_r6, ha_r6⟩, hf⟩ := hf
    refine r_invVI (t := 12) (As := []) (dz := d) (mz := 0) (sz := 0) rfl wd_8_26 wd_8_28 wd_p_77 cf_X12_standNow (Nat.le_refl _) (Nat.zero_le _) (Nat.zero_le _) (cat_ok (Nat.le_of_ble_eq_true rfl)) rfl rfl ha_r6 dX12_heap_65 hf (fun r6 σ5 hk => ?_)
    replace hf := hk
    clear hk
    try unfold C_X12_takenOf at hf
    refine r_invSI (As := [aI r6]) (dz := d) (mz := 0) (sz := 0) rfl wd_8_34 wd_8_35 cf_X12_takenOf (Nat.le_refl _) (Nat.zero_le _) (Nat.zero_le _) (cat_ok (Nat.le_of_ble_eq_true rfl)) dX12_heap_68 hf (fun r8 σ7 hk => ?_)
    replace hf := hk
    clear hk
    refine r_istore_n (L' := [(2, aI r8), (0, aR (some v0)), (1, aI v1)]) rfl rfl (Nat.le_of_ble_eq_true rfl) dX12_heap_71 ?_
    refine r_aload_n (j := 1) rfl rfl dX12_heap_72 ?_
    refine r_iload_n (j := 2) rfl rfl dX12_heap_73 ?_
    refine r_iconst (v := (-1)) (by decide) dX12_heap_74 ?_
    refine r_icmpne (x := v1) (y := (-1)) (tgt := 82) (by decide) dX12_heap_75 (fun hc => ?_) (fun hc => ?_)
    · replace hf := hf.1 hc
      refine r_iload_n (j := 0) rfl rfl dX12_heap_82 ?_
      refine r_aload_n (j := 1) rfl rfl dX12_heap_83 ?_
      refine r_iload_n (j := 2) rfl rfl dX12_heap_84 ?_
      try unfold C_X12_squaresOf at hf
      obtain ⟨⟨fs_r10, ha_r10⟩, hf⟩ := hf
      refine r_invVI (t := 12) (As := [aI v1]) (dz := d) (mz := 0) (sz := 0) rfl wd_8_141 wd_8_143 wd_p_90 cf_X12_squaresOf (Nat.le_refl _) (Nat.zero_le _) (Nat.zero_le _) (cat_ok (Nat.le_of_ble_eq_true rfl)) rfl rfl ha_r10 dX12_heap_85 hf (fun r10 σ9 hk => ?_)
      replace hf := hk
      clear hk
      refine r_iand (x := r8) (y := r10) dX12_heap_88 ?_
      exact r_sub [2] rfl (b_X12_heap_89 hf)
    · replace hf := hf.2 hc
      refine r_iload_n (j := 0) rfl rfl dX12_heap_78 ?_
      refine r_goto (tgt := 89) (by decide) dX12_heap_79 ?_
      exact r_sub [2] rfl (b_X12_heap_89 hf)
  · replace hf := hf.2 hc
    refine r_aload_n (j := 0) rfl rfl dX12_heap_51 ?_
    obtain ⟨fs_x11, x11, ha_x11, hv_x11, hf⟩ := hf
    refine r_get (Cn := RX12) (Tt := TX12) (N := 42) (n := 36) rfl uw_X12 (Nat.le_of_ble_eq_true rfl) wd_6_222 ha_x11 hv_x11 dX12_heap_52 ?_
    refine r_iload_n (j := 2) rfl rfl dX12_heap_55 ?_
    refine r_iconst (v := (-1)) (by decide) dX12_heap_56 ?_
    obtain ⟨N_x13, f_x13, ha_x13, hi_x13, hf⟩ := hf
    generalize hσ12 : hset σ x11 (iA N_x13 (up_ f_x13 (v2 : Int32).toNatClampNeg (-1))) = σ12 at hf
    refine r_iast (f := f_x13) (x := (-1)) ha_x13 hi_x13 dX12_heap_57 ?_
    refine Eq.mpr (congrArg (fun z => Wd _ _ _ _ _ _ _ _ _ _ _ z _ _ _) hσ12) ?_
    refine r_iinc (j := 2) (w := (v2 + 1)) (L' := [(2, aI (v2 + 1)), (0, aR (some v0)), (1, aI v1)]) rfl (by rfl) rfl (Nat.le_of_ble_eq_true rfl) dX12_heap_58 ?_
    refine r_goto (tgt := 45) (by decide) dX12_heap_61 ?_
    exact r_sub [1, 2, 0] rfl (hX45 _ _ _ _ hf)
def Z_X12_heap_45 (l : Launch) (G : GG) (d : Nat) (K : Int32 → Hp → Prop) : Nat → Nat → Int32 → Int32 → Hp → Prop
  | 0 => fun _ _ _ _ => False
  | n + 1 => fun v0 v1 v2 σ => F_X12_heap_45 l G d (Z_X12_heap_45 l G d K n) v0 v1 v2 σ K
theorem z_X12_heap_45 {l : Launch} {G : GG} {d : Nat} {K : Int32 → Hp → Prop} : ∀ (n : Nat) v0 v1 v2 σ, Z_X12_heap_45 l G d K n v0 v1 v2 σ → Wd l G (d + 1) "CoinsLaidModel" yX12_heap cX12_heap 3 (some FieldType.int) 45 [(0, aR (some v0)), (1, aI v1), (2, aI v2)] [] σ 0 0 (xM (QI K)) := by
  intro n
  induction n with
  | zero => intro v0 v1 v2 σ hf; exact hf.elim
  | succ n ih => intro v0 v1 v2 σ hf; exact b_X12_heap_45 ih hf
def F_X12_heap_30 (l : Launch) (G : GG) (d : Nat) (v0 : Nat) (v1 : Int32) (σ : Hp) (K : Int32 → Hp → Prop) : Prop :=
  C_X12_isHeap l G d v0 σ fun r15 σ14 =>
  (r15 = true →
    ∃ n, Z_X12_heap_45 l G d K n v0 v1 0 σ14) ∧
  (r15 = false →
    C_X12_no l G d v0 5 σ14 fun r17 σ16 =>
    K r17 σ16)
set_option maxRecDepth 100000 in
set_option maxHeartbeats 4000000 in
theorem b_X12_heap_30 {l : Launch} {G : GG} {d : Nat} {v0 : Nat} {v1 : Int32} {σ : Hp} {K : Int32 → Hp → Prop} (hf : F_X12_heap_30 l G d v0 v1 σ K) : Wd l G (d + 1) "CoinsLaidModel" yX12_heap cX12_heap 3 (some FieldType.int) 30 [(0, aR (some v0)), (1, aI v1)] [] σ 0 0 (xM (QI K)) := by
  unfold F_X12_heap_30 at hf
  refine r_aload_n (j := 0) rfl rfl dX12_heap_30 ?_
  try unfold C_X12_isHeap at hf
  obtain ⟨⟨fs_r15, ha_r15⟩, hf⟩ := hf
  refine r_invVZ (t := 12) (As := []) (dz := d) (mz := 0) (sz := 0) rfl wd_8_137 wd_8_139 wd_p_89 cf_X12_isHeap (Nat.le_refl _) (Nat.zero_le _) (Nat.zero_le _) (cat_ok (Nat.le_of_ble_eq_true rfl)) rfl rfl ha_r15 dX12_heap_31 hf (fun r15 σ14 hk => ?_)
  replace hf := hk
  clear hk
  refine r_ifneZ (b := r15) (tgt := 43) (by decide) dX12_heap_34 (fun hc => ?_) (fun hc => ?_)
  · replace hf := hf.1 hc
    refine r_iconst (v := 0) (by decide) dX12_heap_43 ?_
    refine r_istore_n (L' := [(2, aI 0), (0, aR (some v0)), (1, aI v1)]) rfl rfl (Nat.le_of_ble_eq_true rfl) dX12_heap_44 ?_
    obtain ⟨n, hf⟩ := hf
    exact r_sub [1, 2, 0] rfl (z_X12_heap_45 n _ _ _ _ hf)
  · replace hf := hf.2 hc
    refine r_aload_n (j := 0) rfl rfl dX12_heap_37 ?_
    refine r_iconst (v := 5) (by decide) dX12_heap_38 ?_
    try unfold C_X12_no at hf
    obtain ⟨⟨fs_r17, ha_r17⟩, hf⟩ := hf
    refine r_invVI (t := 12) (As := [aI 5]) (dz := d) (mz := 0) (sz := 0) rfl wd_7_92 wd_7_94 wd_p_50 cf_X12_no (Nat.le_refl _) (Nat.zero_le _) (Nat.zero_le _) (cat_ok (Nat.le_of_ble_eq_true rfl)) rfl rfl ha_r17 dX12_heap_39 hf (fun r17 σ16 hk => ?_)
    replace hf := hk
    clear hk
    exact r_ireturn rfl dX12_heap_42 rfl ⟨_, rfl, hf⟩
def F_X12_heap (l : Launch) (G : GG) (d : Nat) (v0 : Nat) (v1 : Int32) (σ : Hp) (K : Int32 → Hp → Prop) : Prop :=
  C_X12_clear l G d v0 σ fun σ18 =>
  fZ σ18 v0 12 14 fun x20 =>
  (x20 = false →
    F_X12_heap_24 l G d v0 σ18 K) ∧
  (x20 = true →
    ((v1 : Int32) = ((-1) : Int32) →
      F_X12_heap_30 l G d v0 v1 σ18 K) ∧
    (¬ (v1 : Int32) = ((-1) : Int32) →
      C_X12_isBoard l G d v0 v1 σ18 fun r22 σ21 =>
      (r22 = true →
        F_X12_heap_30 l G d v0 v1 σ21 K) ∧
      (r22 = false →
        F_X12_heap_24 l G d v0 σ21 K)))
set_option maxRecDepth 100000 in
set_option maxHeartbeats 4000000 in
theorem b_X12_heap_0 {l : Launch} {G : GG} {d : Nat} {v0 : Nat} {v1 : Int32} {σ : Hp} {K : Int32 → Hp → Prop} (hf : F_X12_heap l G d v0 v1 σ K) : Wd l G (d + 1) "CoinsLaidModel" yX12_heap cX12_heap 3 (some FieldType.int) 0 [(0, aR (some v0)), (1, aI v1)] [] σ 0 0 (xM (QI K)) := by
  unfold F_X12_heap at hf
  refine r_aload_n (j := 0) rfl rfl dX12_heap_0 ?_
  try unfold C_X12_clear at hf
  obtain ⟨⟨fs_r19, ha_r19⟩, hf⟩ := hf
  refine r_invVU (t := 12) (As := []) (dz := d) (mz := 0) (sz := 0) rfl wd_7_85 wd_7_87 wd_p_49 cf_X12_clear (Nat.le_refl _) (Nat.zero_le _) (Nat.zero_le _) (cat_ok (Nat.le_of_ble_eq_true rfl)) rfl rfl ha_r19 dX12_heap_1 hf (fun σ18 hk => ?_)
  replace hf := hk
  clear hk
  refine r_aload_n (j := 0) rfl rfl dX12_heap_4 ?_
  obtain ⟨fs_x20, x20, ha_x20, hv_x20, hf⟩ := hf
  refine r_get (Cn := RX12) (Tt := TX12) (N := 42) (n := 14) rfl uw_X12 (Nat.le_of_ble_eq_true rfl) wd_6_200 ha_x20 hv_x20 dX12_heap_5 ?_
  refine r_ifeqZ (b := x20) (tgt := 24) (by decide) dX12_heap_8 (fun hc => ?_) (fun hc => ?_)
  · replace hf := hf.1 hc
    exact r_sub [0] rfl (b_X12_heap_24 hf)
  · replace hf := hf.2 hc
    refine r_iload_n (j := 1) rfl rfl dX12_heap_11 ?_
    refine r_iconst (v := (-1)) (by decide) dX12_heap_12 ?_
    refine r_icmpeq (x := v1) (y := (-1)) (tgt := 30) (by decide) dX12_heap_13 (fun hc => ?_) (fun hc => ?_)
    · replace hf := hf.1 hc
      exact r_sub [0, 1] rfl (b_X12_heap_30 hf)
    · replace hf := hf.2 hc
      refine r_aload_n (j := 0) rfl rfl dX12_heap_16 ?_
      refine r_iload_n (j := 1) rfl rfl dX12_heap_17 ?_
      try unfold C_X12_isBoard at hf
      obtain ⟨⟨fs_r22, ha_r22⟩, hf⟩ := hf
      refine r_invVZ (t := 12) (As := [aI v1]) (dz := d) (mz := 0) (sz := 0) rfl wd_8_18 wd_8_20 wd_p_76 cf_X12_isBoard (Nat.le_refl _) (Nat.zero_le _) (Nat.zero_le _) (cat_ok (Nat.le_of_ble_eq_true rfl)) rfl rfl ha_r22 dX12_heap_18 hf (fun r22 σ21 hk => ?_)
      replace hf := hk
      clear hk
      refine r_ifneZ (b := r22) (tgt := 30) (by decide) dX12_heap_21 (fun hc => ?_) (fun hc => ?_)
      · replace hf := hf.1 hc
        exact r_sub [0, 1] rfl (b_X12_heap_30 hf)
      · replace hf := hf.2 hc
        exact r_sub [0] rfl (b_X12_heap_24 hf)
theorem m_X12_heap {l : Launch} {G : GG} {d : Nat} {v0 : Nat} {v1 : Int32} {σ : Hp} {K : Int32 → Hp → Prop} (hr : rv σ v0 12) (hf : F_X12_heap l G d v0 v1 σ K) : C_X12_heap l G (d + 1) v0 v1 σ K := ⟨hr, Sp.of (by decide) (Nat.le_of_ble_eq_true rfl) (b_X12_heap_0 hf) rfl⟩
def F_X12_isHalf_58 (l : Launch) (G : GG) (d : Nat) (s0 : Bool) (σ : Hp) (K : Bool → Hp → Prop) : Prop :=
  K s0 σ
set_option maxRecDepth 100000 in
set_option maxHeartbeats 4000000 in
theorem b_X12_isHalf_58 {l : Launch} {G : GG} {d : Nat} {s0 : Bool} {σ : Hp} {K : Bool → Hp → Prop} (hf : F_X12_isHalf_58 l G d s0 σ K) : Wd l G (d + 1) "CoinsLaidModel" yX12_isHalf cX12_isHalf 5 (some FieldType.boolean) 58 [] [aI (bi s0)] σ 0 0 (xM (QZ K)) := by
  unfold F_X12_isHalf_58 at hf
  exact r_zreturn (b := s0) rfl dX12_isHalf_58 rfl ⟨_, rfl, hf⟩
def F_X12_isHalf_57 (l : Launch) (G : GG) (d : Nat) (σ : Hp) (K : Bool → Hp → Prop) : Prop :=
  F_X12_isHalf_58 l G d false σ K
set_option maxRecDepth 100000 in
set_option maxHeartbeats 4000000 in
theorem b_X12_isHalf_57 {l : Launch} {G : GG} {d : Nat} {σ : Hp} {K : Bool → Hp → Prop} (hf : F_X12_isHalf_57 l G d  σ K) : Wd l G (d + 1) "CoinsLaidModel" yX12_isHalf cX12_isHalf 5 (some FieldType.boolean) 57 [] [] σ 0 0 (xM (QZ K)) := by
  unfold F_X12_isHalf_57 at hf
  refine r_iconst (v := 0) (by decide) dX12_isHalf_57 ?_
  exact r_sub [] rfl (b_X12_isHalf_58 hf)
def F_X12_isHalf (l : Launch) (G : GG) (d : Nat) (v0 : Nat) (v1 : Int32) (v2 : Int32) (σ : Hp) (K : Bool → Hp → Prop) : Prop :=
  fN σ v0 12 15 fun x1 =>
  gI σ x1 16 fun x2 =>
  C_X12_squaresOf l G d v0 v1 σ fun r4 σ3 =>
  fN σ3 v0 12 15 fun x5 =>
  gI σ3 x5 16 fun x6 =>
  C_X12_squaresOf l G d v0 v1 σ3 fun r8 σ7 =>
  C_X12_halfRound l G d v0 v1 ((v2 ||| x2) &&& r4) σ7 fun r10 σ9 =>
  (¬ (r10 : Int32) = (((v2 ||| x2) &&& r4) : Int32) →
    F_X12_isHalf_57 l G d σ9 K) ∧
  ((r10 : Int32) = (((v2 ||| x2) &&& r4) : Int32) →
    C_X12_halfRound l G d v0 v1 (x6 &&& r8) σ9 fun r12 σ11 =>
    (¬ (r12 : Int32) = ((x6 &&& r8) : Int32) →
      F_X12_isHalf_57 l G d σ11 K) ∧
    ((r12 : Int32) = ((x6 &&& r8) : Int32) →
      F_X12_isHalf_58 l G d true σ11 K))
set_option maxRecDepth 100000 in
set_option maxHeartbeats 4000000 in
theorem b_X12_isHalf_0 {l : Launch} {G : GG} {d : Nat} {v0 : Nat} {v1 : Int32} {v2 : Int32} {σ : Hp} {K : Bool → Hp → Prop} (hf : F_X12_isHalf l G d v0 v1 v2 σ K) : Wd l G (d + 1) "CoinsLaidModel" yX12_isHalf cX12_isHalf 5 (some FieldType.boolean) 0 [(0, aR (some v0)), (1, aI v1), (2, aI v2)] [] σ 0 0 (xM (QZ K)) := by
  unfold F_X12_isHalf at hf
  refine r_iload_n (j := 2) rfl rfl dX12_isHalf_0 ?_
  refine r_aload_n (j := 0) rfl rfl dX12_isHalf_1 ?_
  obtain ⟨fs_x1, x1, ha_x1, hv_x1, hf⟩ := hf
  refine r_get (Cn := RX12) (Tt := TX12) (N := 42) (n := 15) rfl uw_X12 (Nat.le_of_ble_eq_true rfl) wd_6_201 ha_x1 hv_x1 dX12_isHalf_2 ?_
  refine r_bipush (v := 16) (by decide) dX12_isHalf_5 ?_
  obtain ⟨N_x2, f_x2, ha_x2, hi_x2, hf⟩ := hf
  refine r_iald ha_x2 hi_x2 dX12_isHalf_7 ?_
  generalize f_x2 (16 : Int32).toNatClampNeg = x2 at hf ⊢
  refine r_ior (x := v2) (y := x2) dX12_isHalf_8 ?_
  refine r_aload_n (j := 0) rfl rfl dX12_isHalf_9 ?_
  refine r_iload_n (j := 1) rfl rfl dX12_isHalf_10 ?_
  try unfold C_X12_squaresOf at hf
  obtain ⟨⟨fs_r4, ha_r4⟩, hf⟩ := hf
  refine r_invVI (t := 12) (As := [aI v1]) (dz := d) (mz := 0) (sz := 0) rfl wd_8_141 wd_8_143 wd_p_90 cf_X12_squaresOf (Nat.le_refl _) (Nat.zero_le _) (Nat.zero_le _) (cat_ok (Nat.le_of_ble_eq_true rfl)) rfl rfl ha_r4 dX12_isHalf_11 hf (fun r4 σ3 hk => ?_)
  replace hf := hk
  clear hk
  refine r_iand (x := (v2 ||| x2)) (y := r4) dX12_isHalf_14 ?_
  refine r_istore_n (L' := [(3, aI ((v2 ||| x2) &&& r4)), (0, aR (some v0)), (1, aI v1), (2, aI v2)]) rfl rfl (Nat.le_of_ble_eq_true rfl) dX12_isHalf_15 ?_
  refine r_aload_n (j := 1) rfl rfl dX12_isHalf_16 ?_
  obtain ⟨fs_x5, x5, ha_x5, hv_x5, hf⟩ := hf
  refine r_get (Cn := RX12) (Tt := TX12) (N := 42) (n := 15) rfl uw_X12 (Nat.le_of_ble_eq_true rfl) wd_6_201 ha_x5 hv_x5 dX12_isHalf_17 ?_
  refine r_bipush (v := 16) (by decide) dX12_isHalf_20 ?_
  obtain ⟨N_x6, f_x6, ha_x6, hi_x6, hf⟩ := hf
  refine r_iald ha_x6 hi_x6 dX12_isHalf_22 ?_
  generalize f_x6 (16 : Int32).toNatClampNeg = x6 at hf ⊢
  refine r_aload_n (j := 1) rfl rfl dX12_isHalf_23 ?_
  refine r_iload_n (j := 2) rfl rfl dX12_isHalf_24 ?_
  try unfold C_X12_squaresOf at hf
  obtain ⟨⟨fs_r8, ha_r8⟩, hf⟩ := hf
  refine r_invVI (t := 12) (As := [aI v1]) (dz := d) (mz := 0) (sz := 0) rfl wd_8_141 wd_8_143 wd_p_90 cf_X12_squaresOf (Nat.le_refl _) (Nat.zero_le _) (Nat.zero_le _) (cat_ok (Nat.le_of_ble_eq_true rfl)) rfl rfl ha_r8 dX12_isHalf_25 hf (fun r8 σ7 hk => ?_)
  replace hf := hk
  clear hk
  refine r_iand (x := x6) (y := r8) dX12_isHalf_28 ?_
  refine r_istore (L' := [(4, aI (x6 &&& r8)), (3, aI ((v2 ||| x2) &&& r4)), (0, aR (some v0)), (1, aI v1), (2, aI v2)]) rfl (Nat.le_of_ble_eq_true rfl) dX12_isHalf_29 ?_
  refine r_aload_n (j := 2) rfl rfl dX12_isHalf_31 ?_
  refine r_iload_n (j := 3) rfl rfl dX12_isHalf_32 ?_
  refine r_iload_n (j := 1) rfl rfl dX12_isHalf_33 ?_
  try unfold C_X12_halfRound at hf
  obtain ⟨⟨fs_r10, ha_r10⟩, hf⟩ := hf
  refine r_invVI (t := 12) (As := [aI v1, aI ((v2 ||| x2) &&& r4)]) (dz := d) (mz := 0) (sz := 0) rfl wd_8_64 wd_8_66 wd_p_82 cf_X12_halfRound (Nat.le_refl _) (Nat.zero_le _) (Nat.zero_le _) (cat_ok (Nat.le_of_ble_eq_true rfl)) rfl rfl ha_r10 dX12_isHalf_34 hf (fun r10 σ9 hk => ?_)
  replace hf := hk
  clear hk
  refine r_iload_n (j := 1) rfl rfl dX12_isHalf_37 ?_
  refine r_icmpne (x := r10) (y := ((v2 ||| x2) &&& r4)) (tgt := 57) (by decide) dX12_isHalf_38 (fun hc => ?_) (fun hc => ?_)
  · replace hf := hf.1 hc
    exact r_sub [] rfl (b_X12_isHalf_57 hf)
  · replace hf := hf.2 hc
    refine r_aload_n (j := 2) rfl rfl dX12_isHalf_41 ?_
    refine r_iload_n (j := 3) rfl rfl dX12_isHalf_42 ?_
    refine r_iload (j := 0) rfl dX12_isHalf_43 ?_
    try unfold C_X12_halfRound at hf
    obtain ⟨⟨fs_r12, ha_r12⟩, hf⟩ := hf
    refine r_invVI (t := 12) (As := [aI v1, aI (x6 &&& r8)]) (dz := d) (mz := 0) (sz := 0) rfl wd_8_64 wd_8_66 wd_p_82 cf_X12_halfRound (Nat.le_refl _) (Nat.zero_le _) (Nat.zero_le _) (cat_ok (Nat.le_of_ble_eq_true rfl)) rfl rfl ha_r12 dX12_isHalf_45 hf (fun r12 σ11 hk => ?_)
    replace hf := hk
    clear hk
    refine r_iload (j := 0) rfl dX12_isHalf_48 ?_
    refine r_icmpne (x := r12) (y := (x6 &&& r8)) (tgt := 57) (by decide) dX12_isHalf_50 (fun hc => ?_) (fun hc => ?_)
    · replace hf := hf.1 hc
      exact r_sub [] rfl (b_X12_isHalf_57 hf)
    · replace hf := hf.2 hc
      refine r_iconst (v := 1) (by decide) dX12_isHalf_53 ?_
      refine r_goto (tgt := 58) (by decide) dX12_isHalf_54 ?_
      exact r_sub [] rfl (b_X12_isHalf_58 hf)
theorem m_X12_isHalf {l : Launch} {G : GG} {d : Nat} {v0 : Nat} {v1 : Int32} {v2 : Int32} {σ : Hp} {K : Bool → Hp → Prop} (hr : rv σ v0 12) (hf : F_X12_isHalf l G d v0 v1 v2 σ K) : C_X12_isHalf l G (d + 1) v0 v1 v2 σ K := ⟨hr, Sp.of (by decide) (Nat.le_of_ble_eq_true rfl) (b_X12_isHalf_0 hf) rfl⟩
def F_X12_half_40 (l : Launch) (G : GG) (d : Nat) (s0 : Int32) (σ : Hp) (K : Int32 → Hp → Prop) : Prop :=
  K s0 σ
set_option maxRecDepth 100000 in
set_option maxHeartbeats 4000000 in
theorem b_X12_half_40 {l : Launch} {G : GG} {d : Nat} {s0 : Int32} {σ : Hp} {K : Int32 → Hp → Prop} (hf : F_X12_half_40 l G d s0 σ K) : Wd l G (d + 1) "CoinsLaidModel" yX12_half cX12_half 2 (some FieldType.int) 40 [] [aI s0] σ 0 0 (xM (QI K)) := by
  unfold F_X12_half_40 at hf
  exact r_ireturn rfl dX12_half_40 rfl ⟨_, rfl, hf⟩
def F_X12_half (l : Launch) (G : GG) (d : Nat) (v0 : Nat) (v1 : Int32) (σ : Hp) (K : Int32 → Hp → Prop) : Prop :=
  C_X12_clear l G d v0 σ fun σ1 =>
  C_X12_isBoard l G d v0 v1 σ1 fun r4 σ3 =>
  (r4 = false →
    C_X12_no l G d v0 1 σ3 fun r6 σ5 =>
    F_X12_half_40 l G d r6 σ5 K) ∧
  (r4 = true →
    C_X12_standNow l G d v0 σ3 fun r8 σ7 =>
    C_X12_takenOf l G d r8 σ7 fun r10 σ9 =>
    C_X12_isHalf l G d v0 v1 r10 σ9 fun r12 σ11 =>
    (r12 = false →
      F_X12_half_40 l G d 0 σ11 K) ∧
    (r12 = true →
      F_X12_half_40 l G d 1 σ11 K))
set_option maxRecDepth 100000 in
set_option maxHeartbeats 4000000 in
theorem b_X12_half_0 {l : Launch} {G : GG} {d : Nat} {v0 : Nat} {v1 : Int32} {σ : Hp} {K : Int32 → Hp → Prop} (hf : F_X12_half l G d v0 v1 σ K) : Wd l G (d + 1) "CoinsLaidModel" yX12_half cX12_half 2 (some FieldType.int) 0 [(0, aR (some v0)), (1, aI v1)] [] σ 0 0 (xM (QI K)) := by
  unfold F_X12_half at hf
  refine r_aload_n (j := 0) rfl rfl dX12_half_0 ?_
  try unfold C_X12_clear at hf
  obtain ⟨⟨fs_r2, ha_r2⟩, hf⟩ := hf
  refine r_invVU (t := 12) (As := []) (dz := d) (mz := 0) (sz := 0) rfl wd_7_85 wd_7_87 wd_p_49 cf_X12_clear (Nat.le_refl _) (Nat.zero_le _) (Nat.zero_le _) (cat_ok (Nat.le_of_ble_eq_true rfl)) rfl rfl ha_r2 dX12_half_1 hf (fun σ1 hk => ?_)
  replace hf := hk
  clear hk
  refine r_aload_n (j := 0) rfl rfl dX12_half_4 ?_
  refine r_iload_n (j := 1) rfl rfl dX12_half_5 ?_
  try unfold C_X12_isBoard at hf
  obtain ⟨⟨fs_r4, ha_r4⟩, hf⟩ := hf
  refine r_invVZ (t := 12) (As := [aI v1]) (dz := d) (mz := 0) (sz := 0) rfl wd_8_18 wd_8_20 wd_p_76 cf_X12_isBoard (Nat.le_refl _) (Nat.zero_le _) (Nat.zero_le _) (cat_ok (Nat.le_of_ble_eq_true rfl)) rfl rfl ha_r4 dX12_half_6 hf (fun r4 σ3 hk => ?_)
  replace hf := hk
  clear hk
  refine r_ifeqZ (b := r4) (tgt := 35) (by decide) dX12_half_9 (fun hc => ?_) (fun hc => ?_)
  · replace hf := hf.1 hc
    refine r_aload_n (j := 0) rfl rfl dX12_half_35 ?_
    refine r_iconst (v := 1) (by decide) dX12_half_36 ?_
    try unfold C_X12_no at hf
    obtain ⟨⟨fs_r6, ha_r6⟩, hf⟩ := hf
    refine r_invVI (t := 12) (As := [aI 1]) (dz := d) (mz := 0) (sz := 0) rfl wd_7_92 wd_7_94 wd_p_50 cf_X12_no (Nat.le_refl _) (Nat.zero_le _) (Nat.zero_le _) (cat_ok (Nat.le_of_ble_eq_true rfl)) rfl rfl ha_r6 dX12_half_37 hf (fun r6 σ5 hk => ?_)
    replace hf := hk
    clear hk
    exact r_sub [] rfl (b_X12_half_40 hf)
  · replace hf := hf.2 hc
    refine r_aload_n (j := 0) rfl rfl dX12_half_12 ?_
    refine r_iload_n (j := 1) rfl rfl dX12_half_13 ?_
    refine r_aload_n (j := 0) rfl rfl dX12_half_14 ?_
    try unfold C_X12_standNow at hf
    obtain ⟨⟨fs_r8, ha_r8⟩, hf⟩ := hf
    refine r_invVI (t := 12) (As := []) (dz := d) (mz := 0) (sz := 0) rfl wd_8_26 wd_8_28 wd_p_77 cf_X12_standNow (Nat.le_refl _) (Nat.zero_le _) (Nat.zero_le _) (cat_ok (Nat.le_of_ble_eq_true rfl)) rfl rfl ha_r8 dX12_half_15 hf (fun r8 σ7 hk => ?_)
    replace hf := hk
    clear hk
    try unfold C_X12_takenOf at hf
    refine r_invSI (As := [aI r8]) (dz := d) (mz := 0) (sz := 0) rfl wd_8_34 wd_8_35 cf_X12_takenOf (Nat.le_refl _) (Nat.zero_le _) (Nat.zero_le _) (cat_ok (Nat.le_of_ble_eq_true rfl)) dX12_half_18 hf (fun r10 σ9 hk => ?_)
    replace hf := hk
    clear hk
    try unfold C_X12_isHalf at hf
    obtain ⟨⟨fs_r12, ha_r12⟩, hf⟩ := hf
    refine r_invVZ (t := 12) (As := [aI v1, aI r10]) (dz := d) (mz := 0) (sz := 0) rfl wd_8_153 wd_8_155 wd_p_92 cf_X12_isHalf (Nat.le_refl _) (Nat.zero_le _) (Nat.zero_le _) (cat_ok (Nat.le_of_ble_eq_true rfl)) rfl rfl ha_r12 dX12_half_21 hf (fun r12 σ11 hk => ?_)
    replace hf := hk
    clear hk
    refine r_ifeqZ (b := r12) (tgt := 31) (by decide) dX12_half_24 (fun hc => ?_) (fun hc => ?_)
    · replace hf := hf.1 hc
      refine r_iconst (v := 0) (by decide) dX12_half_31 ?_
      refine r_goto (tgt := 40) (by decide) dX12_half_32 ?_
      exact r_sub [] rfl (b_X12_half_40 hf)
    · replace hf := hf.2 hc
      refine r_iconst (v := 1) (by decide) dX12_half_27 ?_
      refine r_goto (tgt := 40) (by decide) dX12_half_28 ?_
      exact r_sub [] rfl (b_X12_half_40 hf)
theorem m_X12_half {l : Launch} {G : GG} {d : Nat} {v0 : Nat} {v1 : Int32} {σ : Hp} {K : Int32 → Hp → Prop} (hr : rv σ v0 12) (hf : F_X12_half l G d v0 v1 σ K) : C_X12_half l G (d + 1) v0 v1 σ K := ⟨hr, Sp.of (by decide) (Nat.le_of_ble_eq_true rfl) (b_X12_half_0 hf) rfl⟩
def F_X12_isAnswered_76 (l : Launch) (G : GG) (d : Nat) (X2 : Nat → Int32 → Int32 → Hp → Prop) (v0 : Nat) (v1 : Int32) (v2 : Int32) (σ : Hp) (K : Bool → Hp → Prop) : Prop :=
  X2 v0 v1 (v2 + 1) σ
set_option maxRecDepth 100000 in
set_option maxHeartbeats 4000000 in
theorem b_X12_isAnswered_76 {l : Launch} {G : GG} {d : Nat} {X2 : Nat → Int32 → Int32 → Hp → Prop} {v0 : Nat} {v1 : Int32} {v2 : Int32} {σ : Hp} {K : Bool → Hp → Prop} (hX2 : ∀ v0 v1 v2 σ, X2 v0 v1 v2 σ → Wd l G (d + 1) "CoinsLaidModel" yX12_isAnswered cX12_isAnswered 4 (some FieldType.boolean) 2 [(0, aR (some v0)), (1, aI v1), (2, aI v2)] [] σ 0 0 (xM (QZ K))) (hf : F_X12_isAnswered_76 l G d X2 v0 v1 v2 σ K) : Wd l G (d + 1) "CoinsLaidModel" yX12_isAnswered cX12_isAnswered 4 (some FieldType.boolean) 76 [(0, aR (some v0)), (1, aI v1), (2, aI v2)] [] σ 0 0 (xM (QZ K)) := by
  unfold F_X12_isAnswered_76 at hf
  refine r_iinc (j := 2) (w := (v2 + 1)) (L' := [(2, aI (v2 + 1)), (0, aR (some v0)), (1, aI v1)]) rfl (by rfl) rfl (Nat.le_of_ble_eq_true rfl) dX12_isAnswered_76 ?_
  refine r_goto (tgt := 2) (by decide) dX12_isAnswered_79 ?_
  exact r_sub [1, 2, 0] rfl (hX2 _ _ _ _ hf)
def F_X12_isAnswered_74 (l : Launch) (G : GG) (d : Nat) (σ : Hp) (K : Bool → Hp → Prop) : Prop :=
  K false σ
set_option maxRecDepth 100000 in
set_option maxHeartbeats 4000000 in
theorem b_X12_isAnswered_74 {l : Launch} {G : GG} {d : Nat} {σ : Hp} {K : Bool → Hp → Prop} (hf : F_X12_isAnswered_74 l G d  σ K) : Wd l G (d + 1) "CoinsLaidModel" yX12_isAnswered cX12_isAnswered 4 (some FieldType.boolean) 74 [] [] σ 0 0 (xM (QZ K)) := by
  unfold F_X12_isAnswered_74 at hf
  refine r_iconst (v := 0) (by decide) dX12_isAnswered_74 ?_
  exact r_zreturn (b := false) rfl dX12_isAnswered_75 rfl ⟨_, rfl, hf⟩
def F_X12_isAnswered_2 (l : Launch) (G : GG) (d : Nat) (X2 : Nat → Int32 → Int32 → Hp → Prop) (v0 : Nat) (v1 : Int32) (v2 : Int32) (σ : Hp) (K : Bool → Hp → Prop) : Prop :=
  fI σ v0 12 30 fun x1 =>
  ((x1 : Int32) ≤ (v2 : Int32) →
    K true σ) ∧
  (¬ (x1 : Int32) ≤ (v2 : Int32) →
    C_X12_mayBe l G d v0 v1 v2 σ fun r3 σ2 =>
    (r3 = true →
      C_X12_acrossOf l G d v0 v2 σ2 fun r5 σ4 =>
      ((r5 : Int32) < 0 →
        F_X12_isAnswered_74 l G d σ4 K) ∧
      (¬ (r5 : Int32) < 0 →
        fN σ4 v0 12 28 fun x6 =>
        gI σ4 x6 r5 fun x7 =>
        fN σ4 v0 12 28 fun x8 =>
        gI σ4 x8 v2 fun x9 =>
        (¬ ((x7 &&& x9) : Int32) = 0 →
          F_X12_isAnswered_74 l G d σ4 K) ∧
        (((x7 &&& x9) : Int32) = 0 →
          fN σ4 v0 12 15 fun x10 =>
          gI σ4 x10 2 fun x11 =>
          (¬ (x11 : Int32) = (1 : Int32) →
            F_X12_isAnswered_76 l G d X2 v0 v1 v2 σ4 K) ∧
          ((x11 : Int32) = (1 : Int32) →
            fN σ4 v0 12 29 fun x12 =>
            gI σ4 x12 v2 fun x13 =>
            fN σ4 v0 12 28 fun x14 =>
            gI σ4 x14 r5 fun x15 =>
            (((x13 &&& x15) : Int32) = 0 →
              F_X12_isAnswered_76 l G d X2 v0 v1 v2 σ4 K) ∧
            (¬ ((x13 &&& x15) : Int32) = 0 →
              F_X12_isAnswered_74 l G d σ4 K))))) ∧
    (r3 = false →
      F_X12_isAnswered_76 l G d X2 v0 v1 v2 σ2 K))
set_option maxRecDepth 100000 in
set_option maxHeartbeats 4000000 in
theorem b_X12_isAnswered_2 {l : Launch} {G : GG} {d : Nat} {X2 : Nat → Int32 → Int32 → Hp → Prop} {v0 : Nat} {v1 : Int32} {v2 : Int32} {σ : Hp} {K : Bool → Hp → Prop} (hX2 : ∀ v0 v1 v2 σ, X2 v0 v1 v2 σ → Wd l G (d + 1) "CoinsLaidModel" yX12_isAnswered cX12_isAnswered 4 (some FieldType.boolean) 2 [(0, aR (some v0)), (1, aI v1), (2, aI v2)] [] σ 0 0 (xM (QZ K))) (hf : F_X12_isAnswered_2 l G d X2 v0 v1 v2 σ K) : Wd l G (d + 1) "CoinsLaidModel" yX12_isAnswered cX12_isAnswered 4 (some FieldType.boolean) 2 [(0, aR (some v0)), (1, aI v1), (2, aI v2)] [] σ 0 0 (xM (QZ K)) := by
  unfold F_X12_isAnswered_2 at hf
  refine r_iload_n (j := 2) rfl rfl dX12_isAnswered_2 ?_
  refine r_aload_n (j := 0) rfl rfl dX12_isAnswered_3 ?_
  obtain ⟨fs_x1, x1, ha_x1, hv_x1, hf⟩ := hf
  refine r_get (Cn := RX12) (Tt := TX12) (N := 42) (n := 30) rfl uw_X12 (Nat.le_of_ble_eq_true rfl) wd_6_216 ha_x1 hv_x1 dX12_isAnswered_4 ?_
  refine r_icmpge (x := v2) (y := x1) (tgt := 82) (by decide) dX12_isAnswered_7 (fun hc => ?_) (fun hc => ?_)
  · replace hf := hf.1 hc
    refine r_iconst (v := 1) (by decide) dX12_isAnswered_82 ?_
    exact r_zreturn (b := true) rfl dX12_isAnswered_83 rfl ⟨_, rfl, hf⟩
  · replace hf := hf.2 hc
    refine r_aload_n (j := 0) rfl rfl dX12_isAnswered_10 ?_
    refine r_iload_n (j := 1) rfl rfl dX12_isAnswered_11 ?_
    refine r_iload_n (j := 2) rfl rfl dX12_isAnswered_12 ?_
    try unfold C_X12_mayBe at hf
    obtain ⟨⟨fs_r3, ha_r3⟩, hf⟩ := hf
    refine r_invVZ (t := 12) (As := [aI v1, aI v2]) (dz := d) (mz := 0) (sz := 0) rfl wd_8_30 wd_8_32 wd_p_78 cf_X12_mayBe (Nat.le_refl _) (Nat.zero_le _) (Nat.zero_le _) (cat_ok (Nat.le_of_ble_eq_true rfl)) rfl rfl ha_r3 dX12_isAnswered_13 hf (fun r3 σ2 hk => ?_)
    replace hf := hk
    clear hk
    refine r_ifneZ (b := r3) (tgt := 22) (by decide) dX12_isAnswered_16 (fun hc => ?_) (fun hc => ?_)
    · replace hf := hf.1 hc
      refine r_aload_n (j := 0) rfl rfl dX12_isAnswered_22 ?_
      refine r_iload_n (j := 2) rfl rfl dX12_isAnswered_23 ?_
      try unfold C_X12_acrossOf at hf
      obtain ⟨⟨fs_r5, ha_r5⟩, hf⟩ := hf
      refine r_invVI (t := 12) (As := [aI v2]) (dz := d) (mz := 0) (sz := 0) rfl wd_8_60 wd_8_62 wd_p_81 cf_X12_acrossOf (Nat.le_refl _) (Nat.zero_le _) (Nat.zero_le _) (cat_ok (Nat.le_of_ble_eq_true rfl)) rfl rfl ha_r5 dX12_isAnswered_24 hf (fun r5 σ4 hk => ?_)
      replace hf := hk
      clear hk
      refine r_istore_n (L' := [(3, aI r5), (0, aR (some v0)), (1, aI v1), (2, aI v2)]) rfl rfl (Nat.le_of_ble_eq_true rfl) dX12_isAnswered_27 ?_
      refine r_iload_n (j := 0) rfl rfl dX12_isAnswered_28 ?_
      refine r_iflt (x := r5) (tgt := 74) (by decide) dX12_isAnswered_29 (fun hc => ?_) (fun hc => ?_)
      · replace hf := hf.1 hc
        exact r_sub [] rfl (b_X12_isAnswered_74 hf)
      · replace hf := hf.2 hc
        refine r_aload_n (j := 1) rfl rfl dX12_isAnswered_32 ?_
        obtain ⟨fs_x6, x6, ha_x6, hv_x6, hf⟩ := hf
        refine r_get (Cn := RX12) (Tt := TX12) (N := 42) (n := 28) rfl uw_X12 (Nat.le_of_ble_eq_true rfl) wd_6_214 ha_x6 hv_x6 dX12_isAnswered_33 ?_
        refine r_iload_n (j := 0) rfl rfl dX12_isAnswered_36 ?_
        obtain ⟨N_x7, f_x7, ha_x7, hi_x7, hf⟩ := hf
        refine r_iald ha_x7 hi_x7 dX12_isAnswered_37 ?_
        generalize f_x7 (r5 : Int32).toNatClampNeg = x7 at hf ⊢
        refine r_aload_n (j := 1) rfl rfl dX12_isAnswered_38 ?_
        obtain ⟨fs_x8, x8, ha_x8, hv_x8, hf⟩ := hf
        refine r_get (Cn := RX12) (Tt := TX12) (N := 42) (n := 28) rfl uw_X12 (Nat.le_of_ble_eq_true rfl) wd_6_214 ha_x8 hv_x8 dX12_isAnswered_39 ?_
        refine r_iload_n (j := 3) rfl rfl dX12_isAnswered_42 ?_
        obtain ⟨N_x9, f_x9, ha_x9, hi_x9, hf⟩ := hf
        refine r_iald ha_x9 hi_x9 dX12_isAnswered_43 ?_
        generalize f_x9 (v2 : Int32).toNatClampNeg = x9 at hf ⊢
        refine r_iand (x := x7) (y := x9) dX12_isAnswered_44 ?_
        refine r_ifne (x := (x7 &&& x9)) (tgt := 74) (by decide) dX12_isAnswered_45 (fun hc => ?_) (fun hc => ?_)
        · replace hf := hf.1 hc
          exact r_sub [] rfl (b_X12_isAnswered_74 hf)
        · replace hf := hf.2 hc
          refine r_aload_n (j := 1) rfl rfl dX12_isAnswered_48 ?_
          obtain ⟨fs_x10, x10, ha_x10, hv_x10, hf⟩ := hf
          refine r_get (Cn := RX12) (Tt := TX12) (N := 42) (n := 15) rfl uw_X12 (Nat.le_of_ble_eq_true rfl) wd_6_201 ha_x10 hv_x10 dX12_isAnswered_49 ?_
          refine r_iconst (v := 2) (by decide) dX12_isAnswered_52 ?_
          obtain ⟨N_x11, f_x11, ha_x11, hi_x11, hf⟩ := hf
          refine r_iald ha_x11 hi_x11 dX12_isAnswered_53 ?_
          generalize f_x11 (2 : Int32).toNatClampNeg = x11 at hf ⊢
          refine r_iconst (v := 1) (by decide) dX12_isAnswered_54 ?_
          refine r_icmpne (x := x11) (y := 1) (tgt := 76) (by decide) dX12_isAnswered_55 (fun hc => ?_) (fun hc => ?_)
          · replace hf := hf.1 hc
            exact r_sub [1, 2, 3] rfl (b_X12_isAnswered_76 hX2 hf)
          · replace hf := hf.2 hc
            refine r_aload_n (j := 1) rfl rfl dX12_isAnswered_58 ?_
            obtain ⟨fs_x12, x12, ha_x12, hv_x12, hf⟩ := hf
            refine r_get (Cn := RX12) (Tt := TX12) (N := 42) (n := 29) rfl uw_X12 (Nat.le_of_ble_eq_true rfl) wd_6_215 ha_x12 hv_x12 dX12_isAnswered_59 ?_
            refine r_iload_n (j := 3) rfl rfl dX12_isAnswered_62 ?_
            obtain ⟨N_x13, f_x13, ha_x13, hi_x13, hf⟩ := hf
            refine r_iald ha_x13 hi_x13 dX12_isAnswered_63 ?_
            generalize f_x13 (v2 : Int32).toNatClampNeg = x13 at hf ⊢
            refine r_aload_n (j := 1) rfl rfl dX12_isAnswered_64 ?_
            obtain ⟨fs_x14, x14, ha_x14, hv_x14, hf⟩ := hf
            refine r_get (Cn := RX12) (Tt := TX12) (N := 42) (n := 28) rfl uw_X12 (Nat.le_of_ble_eq_true rfl) wd_6_214 ha_x14 hv_x14 dX12_isAnswered_65 ?_
            refine r_iload_n (j := 0) rfl rfl dX12_isAnswered_68 ?_
            obtain ⟨N_x15, f_x15, ha_x15, hi_x15, hf⟩ := hf
            refine r_iald ha_x15 hi_x15 dX12_isAnswered_69 ?_
            generalize f_x15 (r5 : Int32).toNatClampNeg = x15 at hf ⊢
            refine r_iand (x := x13) (y := x15) dX12_isAnswered_70 ?_
            refine r_ifeq (x := (x13 &&& x15)) (tgt := 76) (by decide) dX12_isAnswered_71 (fun hc => ?_) (fun hc => ?_)
            · replace hf := hf.1 hc
              exact r_sub [1, 2, 3] rfl (b_X12_isAnswered_76 hX2 hf)
            · replace hf := hf.2 hc
              exact r_sub [] rfl (b_X12_isAnswered_74 hf)
    · replace hf := hf.2 hc
      refine r_goto (tgt := 76) (by decide) dX12_isAnswered_19 ?_
      exact r_sub [0, 1, 2] rfl (b_X12_isAnswered_76 hX2 hf)
def Z_X12_isAnswered_2 (l : Launch) (G : GG) (d : Nat) (K : Bool → Hp → Prop) : Nat → Nat → Int32 → Int32 → Hp → Prop
  | 0 => fun _ _ _ _ => False
  | n + 1 => fun v0 v1 v2 σ => F_X12_isAnswered_2 l G d (Z_X12_isAnswered_2 l G d K n) v0 v1 v2 σ K
theorem z_X12_isAnswered_2 {l : Launch} {G : GG} {d : Nat} {K : Bool → Hp → Prop} : ∀ (n : Nat) v0 v1 v2 σ, Z_X12_isAnswered_2 l G d K n v0 v1 v2 σ → Wd l G (d + 1) "CoinsLaidModel" yX12_isAnswered cX12_isAnswered 4 (some FieldType.boolean) 2 [(0, aR (some v0)), (1, aI v1), (2, aI v2)] [] σ 0 0 (xM (QZ K)) := by
  intro n
  induction n with
  | zero => intro v0 v1 v2 σ hf; exact hf.elim
  | succ n ih => intro v0 v1 v2 σ hf; exact b_X12_isAnswered_2 ih hf
def F_X12_isAnswered (l : Launch) (G : GG) (d : Nat) (v0 : Nat) (v1 : Int32) (σ : Hp) (K : Bool → Hp → Prop) : Prop :=
  ∃ n, Z_X12_isAnswered_2 l G d K n v0 v1 0 σ
set_option maxRecDepth 100000 in
set_option maxHeartbeats 4000000 in
theorem b_X12_isAnswered_0 {l : Launch} {G : GG} {d : Nat} {v0 : Nat} {v1 : Int32} {σ : Hp} {K : Bool → Hp → Prop} (hf : F_X12_isAnswered l G d v0 v1 σ K) : Wd l G (d + 1) "CoinsLaidModel" yX12_isAnswered cX12_isAnswered 4 (some FieldType.boolean) 0 [(0, aR (some v0)), (1, aI v1)] [] σ 0 0 (xM (QZ K)) := by
  unfold F_X12_isAnswered at hf
  refine r_iconst (v := 0) (by decide) dX12_isAnswered_0 ?_
  refine r_istore_n (L' := [(2, aI 0), (0, aR (some v0)), (1, aI v1)]) rfl rfl (Nat.le_of_ble_eq_true rfl) dX12_isAnswered_1 ?_
  obtain ⟨n, hf⟩ := hf
  exact r_sub [1, 2, 0] rfl (z_X12_isAnswered_2 n _ _ _ _ hf)
theorem m_X12_isAnswered {l : Launch} {G : GG} {d : Nat} {v0 : Nat} {v1 : Int32} {σ : Hp} {K : Bool → Hp → Prop} (hr : rv σ v0 12) (hf : F_X12_isAnswered l G d v0 v1 σ K) : C_X12_isAnswered l G (d + 1) v0 v1 σ K := ⟨hr, Sp.of (by decide) (Nat.le_of_ble_eq_true rfl) (b_X12_isAnswered_0 hf) rfl⟩
def F_X12_byAcross_60 (l : Launch) (G : GG) (d : Nat) (X29 : Nat → Int32 → Bool → Int32 → Hp → Prop) (v0 : Nat) (v1 : Int32) (v3 : Int32) (s0 : Bool) (σ : Hp) (K : Int32 → Hp → Prop) : Prop :=
  X29 v0 v1 s0 (v3 + 1) σ
set_option maxRecDepth 100000 in
set_option maxHeartbeats 4000000 in
theorem b_X12_byAcross_60 {l : Launch} {G : GG} {d : Nat} {X29 : Nat → Int32 → Bool → Int32 → Hp → Prop} {v0 : Nat} {v1 : Int32} {v3 : Int32} {s0 : Bool} {σ : Hp} {K : Int32 → Hp → Prop} (hX29 : ∀ v0 v1 v2 v3 σ, X29 v0 v1 v2 v3 σ → Wd l G (d + 1) "CoinsLaidModel" yX12_byAcross cX12_byAcross 4 (some FieldType.int) 29 [(0, aR (some v0)), (1, aI v1), (2, aI (bi v2)), (3, aI v3)] [] σ 0 0 (xM (QI K))) (hf : F_X12_byAcross_60 l G d X29 v0 v1 v3 s0 σ K) : Wd l G (d + 1) "CoinsLaidModel" yX12_byAcross cX12_byAcross 4 (some FieldType.int) 60 [(0, aR (some v0)), (1, aI v1), (3, aI v3)] [aI (bi s0)] σ 0 0 (xM (QI K)) := by
  unfold F_X12_byAcross_60 at hf
  refine r_istore_n (L' := [(2, aI (bi s0)), (0, aR (some v0)), (1, aI v1), (3, aI v3)]) rfl rfl (Nat.le_of_ble_eq_true rfl) dX12_byAcross_60 ?_
  refine r_iinc (j := 3) (w := (v3 + 1)) (L' := [(3, aI (v3 + 1)), (2, aI (bi s0)), (0, aR (some v0)), (1, aI v1)]) rfl (by rfl) rfl (Nat.le_of_ble_eq_true rfl) dX12_byAcross_61 ?_
  refine r_goto (tgt := 29) (by decide) dX12_byAcross_64 ?_
  exact r_sub [2, 3, 1, 0] rfl (hX29 _ _ _ _ _ hf)
def F_X12_byAcross_59 (l : Launch) (G : GG) (d : Nat) (X29 : Nat → Int32 → Bool → Int32 → Hp → Prop) (v0 : Nat) (v1 : Int32) (v3 : Int32) (σ : Hp) (K : Int32 → Hp → Prop) : Prop :=
  F_X12_byAcross_60 l G d X29 v0 v1 v3 false σ K
set_option maxRecDepth 100000 in
set_option maxHeartbeats 4000000 in
theorem b_X12_byAcross_59 {l : Launch} {G : GG} {d : Nat} {X29 : Nat → Int32 → Bool → Int32 → Hp → Prop} {v0 : Nat} {v1 : Int32} {v3 : Int32} {σ : Hp} {K : Int32 → Hp → Prop} (hX29 : ∀ v0 v1 v2 v3 σ, X29 v0 v1 v2 v3 σ → Wd l G (d + 1) "CoinsLaidModel" yX12_byAcross cX12_byAcross 4 (some FieldType.int) 29 [(0, aR (some v0)), (1, aI v1), (2, aI (bi v2)), (3, aI v3)] [] σ 0 0 (xM (QI K))) (hf : F_X12_byAcross_59 l G d X29 v0 v1 v3 σ K) : Wd l G (d + 1) "CoinsLaidModel" yX12_byAcross cX12_byAcross 4 (some FieldType.int) 59 [(0, aR (some v0)), (1, aI v1), (3, aI v3)] [] σ 0 0 (xM (QI K)) := by
  unfold F_X12_byAcross_59 at hf
  refine r_iconst (v := 0) (by decide) dX12_byAcross_59 ?_
  exact r_sub [0, 1, 2] rfl (b_X12_byAcross_60 hX29 hf)
def F_X12_byAcross_126 (l : Launch) (G : GG) (d : Nat) (X85 : Nat → Int32 → Int32 → Hp → Prop) (v0 : Nat) (v1 : Int32) (v3 : Int32) (σ : Hp) (K : Int32 → Hp → Prop) : Prop :=
  X85 v0 v1 (v3 + 1) σ
set_option maxRecDepth 100000 in
set_option maxHeartbeats 4000000 in
theorem b_X12_byAcross_126 {l : Launch} {G : GG} {d : Nat} {X85 : Nat → Int32 → Int32 → Hp → Prop} {v0 : Nat} {v1 : Int32} {v3 : Int32} {σ : Hp} {K : Int32 → Hp → Prop} (hX85 : ∀ v0 v1 v3 σ, X85 v0 v1 v3 σ → Wd l G (d + 1) "CoinsLaidModel" yX12_byAcross cX12_byAcross 4 (some FieldType.int) 85 [(0, aR (some v0)), (1, aI v1), (3, aI v3)] [] σ 0 0 (xM (QI K))) (hf : F_X12_byAcross_126 l G d X85 v0 v1 v3 σ K) : Wd l G (d + 1) "CoinsLaidModel" yX12_byAcross cX12_byAcross 4 (some FieldType.int) 126 [(0, aR (some v0)), (1, aI v1), (3, aI v3)] [] σ 0 0 (xM (QI K)) := by
  unfold F_X12_byAcross_126 at hf
  refine r_iinc (j := 2) (w := (v3 + 1)) (L' := [(3, aI (v3 + 1)), (0, aR (some v0)), (1, aI v1)]) rfl (by rfl) rfl (Nat.le_of_ble_eq_true rfl) dX12_byAcross_126 ?_
  refine r_goto (tgt := 85) (by decide) dX12_byAcross_129 ?_
  exact r_sub [1, 2, 0] rfl (hX85 _ _ _ _ hf)
def F_X12_byAcross_85 (l : Launch) (G : GG) (d : Nat) (X85 : Nat → Int32 → Int32 → Hp → Prop) (v0 : Nat) (v1 : Int32) (v3 : Int32) (σ : Hp) (K : Int32 → Hp → Prop) : Prop :=
  fI σ v0 12 30 fun x1 =>
  ((x1 : Int32) ≤ (v3 : Int32) →
    K 0 σ) ∧
  (¬ (x1 : Int32) ≤ (v3 : Int32) →
    C_X12_mayBe l G d v0 v1 v3 σ fun r3 σ2 =>
    (r3 = false →
      F_X12_byAcross_126 l G d X85 v0 v1 v3 σ2 K) ∧
    (r3 = true →
      C_X12_acrossOf l G d v0 v3 σ2 fun r5 σ4 =>
      (¬ (r5 : Int32) = (v3 : Int32) →
        F_X12_byAcross_126 l G d X85 v0 v1 v3 σ4 K) ∧
      ((r5 : Int32) = (v3 : Int32) →
        C_X12_behind l G d v0 v1 v3 σ4 fun r7 σ6 =>
        C_X12_isAnswered l G d v0 r7 σ6 fun r9 σ8 =>
        (r9 = false →
          F_X12_byAcross_126 l G d X85 v0 v1 v3 σ8 K) ∧
        (r9 = true →
          K 1 σ8))))
set_option maxRecDepth 100000 in
set_option maxHeartbeats 4000000 in
theorem b_X12_byAcross_85 {l : Launch} {G : GG} {d : Nat} {X85 : Nat → Int32 → Int32 → Hp → Prop} {v0 : Nat} {v1 : Int32} {v3 : Int32} {σ : Hp} {K : Int32 → Hp → Prop} (hX85 : ∀ v0 v1 v3 σ, X85 v0 v1 v3 σ → Wd l G (d + 1) "CoinsLaidModel" yX12_byAcross cX12_byAcross 4 (some FieldType.int) 85 [(0, aR (some v0)), (1, aI v1), (3, aI v3)] [] σ 0 0 (xM (QI K))) (hf : F_X12_byAcross_85 l G d X85 v0 v1 v3 σ K) : Wd l G (d + 1) "CoinsLaidModel" yX12_byAcross cX12_byAcross 4 (some FieldType.int) 85 [(0, aR (some v0)), (1, aI v1), (3, aI v3)] [] σ 0 0 (xM (QI K)) := by
  unfold F_X12_byAcross_85 at hf
  refine r_iload_n (j := 2) rfl rfl dX12_byAcross_85 ?_
  refine r_aload_n (j := 0) rfl rfl dX12_byAcross_86 ?_
  obtain ⟨fs_x1, x1, ha_x1, hv_x1, hf⟩ := hf
  refine r_get (Cn := RX12) (Tt := TX12) (N := 42) (n := 30) rfl uw_X12 (Nat.le_of_ble_eq_true rfl) wd_6_216 ha_x1 hv_x1 dX12_byAcross_87 ?_
  refine r_icmpge (x := v3) (y := x1) (tgt := 132) (by decide) dX12_byAcross_90 (fun hc => ?_) (fun hc => ?_)
  · replace hf := hf.1 hc
    refine r_iconst (v := 0) (by decide) dX12_byAcross_132 ?_
    exact r_ireturn rfl dX12_byAcross_133 rfl ⟨_, rfl, hf⟩
  · replace hf := hf.2 hc
    refine r_aload_n (j := 0) rfl rfl dX12_byAcross_93 ?_
    refine r_iload_n (j := 1) rfl rfl dX12_byAcross_94 ?_
    refine r_iload_n (j := 2) rfl rfl dX12_byAcross_95 ?_
    try unfold C_X12_mayBe at hf
    obtain ⟨⟨fs_r3, ha_r3⟩, hf⟩ := hf
    refine r_invVZ (t := 12) (As := [aI v1, aI v3]) (dz := d) (mz := 0) (sz := 0) rfl wd_8_30 wd_8_32 wd_p_78 cf_X12_mayBe (Nat.le_refl _) (Nat.zero_le _) (Nat.zero_le _) (cat_ok (Nat.le_of_ble_eq_true rfl)) rfl rfl ha_r3 dX12_byAcross_96 hf (fun r3 σ2 hk => ?_)
    replace hf := hk
    clear hk
    refine r_ifeqZ (b := r3) (tgt := 126) (by decide) dX12_byAcross_99 (fun hc => ?_) (fun hc => ?_)
    · replace hf := hf.1 hc
      exact r_sub [0, 1, 2] rfl (b_X12_byAcross_126 hX85 hf)
    · replace hf := hf.2 hc
      refine r_aload_n (j := 0) rfl rfl dX12_byAcross_102 ?_
      refine r_iload_n (j := 2) rfl rfl dX12_byAcross_103 ?_
      try unfold C_X12_acrossOf at hf
      obtain ⟨⟨fs_r5, ha_r5⟩, hf⟩ := hf
      refine r_invVI (t := 12) (As := [aI v3]) (dz := d) (mz := 0) (sz := 0) rfl wd_8_60 wd_8_62 wd_p_81 cf_X12_acrossOf (Nat.le_refl _) (Nat.zero_le _) (Nat.zero_le _) (cat_ok (Nat.le_of_ble_eq_true rfl)) rfl rfl ha_r5 dX12_byAcross_104 hf (fun r5 σ4 hk => ?_)
      replace hf := hk
      clear hk
      refine r_iload_n (j := 2) rfl rfl dX12_byAcross_107 ?_
      refine r_icmpne (x := r5) (y := v3) (tgt := 126) (by decide) dX12_byAcross_108 (fun hc => ?_) (fun hc => ?_)
      · replace hf := hf.1 hc
        exact r_sub [0, 1, 2] rfl (b_X12_byAcross_126 hX85 hf)
      · replace hf := hf.2 hc
        refine r_aload_n (j := 0) rfl rfl dX12_byAcross_111 ?_
        refine r_aload_n (j := 0) rfl rfl dX12_byAcross_112 ?_
        refine r_iload_n (j := 1) rfl rfl dX12_byAcross_113 ?_
        refine r_iload_n (j := 2) rfl rfl dX12_byAcross_114 ?_
        try unfold C_X12_behind at hf
        obtain ⟨⟨fs_r7, ha_r7⟩, hf⟩ := hf
        refine r_invVI (t := 12) (As := [aI v1, aI v3]) (dz := d) (mz := 0) (sz := 0) rfl wd_8_100 wd_8_102 wd_p_85 cf_X12_behind (Nat.le_refl _) (Nat.zero_le _) (Nat.zero_le _) (cat_ok (Nat.le_of_ble_eq_true rfl)) rfl rfl ha_r7 dX12_byAcross_115 hf (fun r7 σ6 hk => ?_)
        replace hf := hk
        clear hk
        try unfold C_X12_isAnswered at hf
        obtain ⟨⟨fs_r9, ha_r9⟩, hf⟩ := hf
        refine r_invVZ (t := 12) (As := [aI r7]) (dz := d) (mz := 0) (sz := 0) rfl wd_8_161 wd_8_163 wd_p_93 cf_X12_isAnswered (Nat.le_refl _) (Nat.zero_le _) (Nat.zero_le _) (cat_ok (Nat.le_of_ble_eq_true rfl)) rfl rfl ha_r9 dX12_byAcross_118 hf (fun r9 σ8 hk => ?_)
        replace hf := hk
        clear hk
        refine r_ifeqZ (b := r9) (tgt := 126) (by decide) dX12_byAcross_121 (fun hc => ?_) (fun hc => ?_)
        · replace hf := hf.1 hc
          exact r_sub [0, 1, 2] rfl (b_X12_byAcross_126 hX85 hf)
        · replace hf := hf.2 hc
          refine r_iconst (v := 1) (by decide) dX12_byAcross_124 ?_
          exact r_ireturn rfl dX12_byAcross_125 rfl ⟨_, rfl, hf⟩
def Z_X12_byAcross_85 (l : Launch) (G : GG) (d : Nat) (K : Int32 → Hp → Prop) : Nat → Nat → Int32 → Int32 → Hp → Prop
  | 0 => fun _ _ _ _ => False
  | n + 1 => fun v0 v1 v3 σ => F_X12_byAcross_85 l G d (Z_X12_byAcross_85 l G d K n) v0 v1 v3 σ K
theorem z_X12_byAcross_85 {l : Launch} {G : GG} {d : Nat} {K : Int32 → Hp → Prop} : ∀ (n : Nat) v0 v1 v3 σ, Z_X12_byAcross_85 l G d K n v0 v1 v3 σ → Wd l G (d + 1) "CoinsLaidModel" yX12_byAcross cX12_byAcross 4 (some FieldType.int) 85 [(0, aR (some v0)), (1, aI v1), (3, aI v3)] [] σ 0 0 (xM (QI K)) := by
  intro n
  induction n with
  | zero => intro v0 v1 v3 σ hf; exact hf.elim
  | succ n ih => intro v0 v1 v3 σ hf; exact b_X12_byAcross_85 ih hf
def F_X12_byAcross_29 (l : Launch) (G : GG) (d : Nat) (X29 : Nat → Int32 → Bool → Int32 → Hp → Prop) (v0 : Nat) (v1 : Int32) (v2 : Bool) (v3 : Int32) (σ : Hp) (K : Int32 → Hp → Prop) : Prop :=
  fN σ v0 12 15 fun x10 =>
  gI σ x10 3 fun x11 =>
  ((x11 : Int32) ≤ (v3 : Int32) →
    (v2 = true →
      C_X12_isAnswered l G d v0 v1 σ fun r13 σ12 =>
      (r13 = false →
        ∃ n, Z_X12_byAcross_85 l G d K n v0 v1 0 σ12) ∧
      (r13 = true →
        K 2 σ12)) ∧
    (v2 = false →
      K 0 σ)) ∧
  (¬ (x11 : Int32) ≤ (v3 : Int32) →
    (v2 = false →
      F_X12_byAcross_59 l G d X29 v0 v1 v3 σ K) ∧
    (v2 = true →
      C_X12_takenOf l G d v1 σ fun r15 σ14 =>
      C_X12_isHalf l G d v0 v3 r15 σ14 fun r17 σ16 =>
      (r17 = false →
        F_X12_byAcross_59 l G d X29 v0 v1 v3 σ16 K) ∧
      (r17 = true →
        F_X12_byAcross_60 l G d X29 v0 v1 v3 true σ16 K)))
set_option maxRecDepth 100000 in
set_option maxHeartbeats 4000000 in
theorem b_X12_byAcross_29 {l : Launch} {G : GG} {d : Nat} {X29 : Nat → Int32 → Bool → Int32 → Hp → Prop} {v0 : Nat} {v1 : Int32} {v2 : Bool} {v3 : Int32} {σ : Hp} {K : Int32 → Hp → Prop} (hX29 : ∀ v0 v1 v2 v3 σ, X29 v0 v1 v2 v3 σ → Wd l G (d + 1) "CoinsLaidModel" yX12_byAcross cX12_byAcross 4 (some FieldType.int) 29 [(0, aR (some v0)), (1, aI v1), (2, aI (bi v2)), (3, aI v3)] [] σ 0 0 (xM (QI K))) (hf : F_X12_byAcross_29 l G d X29 v0 v1 v2 v3 σ K) : Wd l G (d + 1) "CoinsLaidModel" yX12_byAcross cX12_byAcross 4 (some FieldType.int) 29 [(0, aR (some v0)), (1, aI v1), (2, aI (bi v2)), (3, aI v3)] [] σ 0 0 (xM (QI K)) := by
  unfold F_X12_byAcross_29 at hf
  refine r_iload_n (j := 3) rfl rfl dX12_byAcross_29 ?_
  refine r_aload_n (j := 0) rfl rfl dX12_byAcross_30 ?_
  obtain ⟨fs_x10, x10, ha_x10, hv_x10, hf⟩ := hf
  refine r_get (Cn := RX12) (Tt := TX12) (N := 42) (n := 15) rfl uw_X12 (Nat.le_of_ble_eq_true rfl) wd_6_201 ha_x10 hv_x10 dX12_byAcross_31 ?_
  refine r_iconst (v := 3) (by decide) dX12_byAcross_34 ?_
  obtain ⟨N_x11, f_x11, ha_x11, hi_x11, hf⟩ := hf
  refine r_iald ha_x11 hi_x11 dX12_byAcross_35 ?_
  generalize f_x11 (3 : Int32).toNatClampNeg = x11 at hf ⊢
  refine r_icmpge (x := v3) (y := x11) (tgt := 67) (by decide) dX12_byAcross_36 (fun hc => ?_) (fun hc => ?_)
  · replace hf := hf.1 hc
    refine r_iload_n (j := 2) rfl rfl dX12_byAcross_67 ?_
    refine r_ifneZ (b := v2) (tgt := 73) (by decide) dX12_byAcross_68 (fun hc => ?_) (fun hc => ?_)
    · replace hf := hf.1 hc
      refine r_aload_n (j := 0) rfl rfl dX12_byAcross_73 ?_
      refine r_iload_n (j := 1) rfl rfl dX12_byAcross_74 ?_
      try unfold C_X12_isAnswered at hf
      obtain ⟨⟨fs_r13, ha_r13⟩, hf⟩ := hf
      refine r_invVZ (t := 12) (As := [aI v1]) (dz := d) (mz := 0) (sz := 0) rfl wd_8_161 wd_8_163 wd_p_93 cf_X12_isAnswered (Nat.le_refl _) (Nat.zero_le _) (Nat.zero_le _) (cat_ok (Nat.le_of_ble_eq_true rfl)) rfl rfl ha_r13 dX12_byAcross_75 hf (fun r13 σ12 hk => ?_)
      replace hf := hk
      clear hk
      refine r_ifeqZ (b := r13) (tgt := 83) (by decide) dX12_byAcross_78 (fun hc => ?_) (fun hc => ?_)
      · replace hf := hf.1 hc
        refine r_iconst (v := 0) (by decide) dX12_byAcross_83 ?_
        refine r_istore_n (L' := [(3, aI 0), (0, aR (some v0)), (1, aI v1), (2, aI (bi v2))]) rfl rfl (Nat.le_of_ble_eq_true rfl) dX12_byAcross_84 ?_
        obtain ⟨n, hf⟩ := hf
        exact r_sub [1, 2, 0] rfl (z_X12_byAcross_85 n _ _ _ _ hf)
      · replace hf := hf.2 hc
        refine r_iconst (v := 2) (by decide) dX12_byAcross_81 ?_
        exact r_ireturn rfl dX12_byAcross_82 rfl ⟨_, rfl, hf⟩
    · replace hf := hf.2 hc
      refine r_iconst (v := 0) (by decide) dX12_byAcross_71 ?_
      exact r_ireturn rfl dX12_byAcross_72 rfl ⟨_, rfl, hf⟩
  · replace hf := hf.2 hc
    refine r_iload_n (j := 2) rfl rfl dX12_byAcross_39 ?_
    refine r_ifeqZ (b := v2) (tgt := 59) (by decide) dX12_byAcross_40 (fun hc => ?_) (fun hc => ?_)
    · replace hf := hf.1 hc
      exact r_sub [0, 1, 3] rfl (b_X12_byAcross_59 hX29 hf)
    · replace hf := hf.2 hc
      refine r_aload_n (j := 0) rfl rfl dX12_byAcross_43 ?_
      refine r_iload_n (j := 3) rfl rfl dX12_byAcross_44 ?_
      refine r_iload_n (j := 1) rfl rfl dX12_byAcross_45 ?_
      try unfold C_X12_takenOf at hf
      refine r_invSI (As := [aI v1]) (dz := d) (mz := 0) (sz := 0) rfl wd_8_34 wd_8_35 cf_X12_takenOf (Nat.le_refl _) (Nat.zero_le _) (Nat.zero_le _) (cat_ok (Nat.le_of_ble_eq_true rfl)) dX12_byAcross_46 hf (fun r15 σ14 hk => ?_)
      replace hf := hk
      clear hk
      try unfold C_X12_isHalf at hf
      obtain ⟨⟨fs_r17, ha_r17⟩, hf⟩ := hf
      refine r_invVZ (t := 12) (As := [aI v3, aI r15]) (dz := d) (mz := 0) (sz := 0) rfl wd_8_153 wd_8_155 wd_p_92 cf_X12_isHalf (Nat.le_refl _) (Nat.zero_le _) (Nat.zero_le _) (cat_ok (Nat.le_of_ble_eq_true rfl)) rfl rfl ha_r17 dX12_byAcross_49 hf (fun r17 σ16 hk => ?_)
      replace hf := hk
      clear hk
      refine r_ifeqZ (b := r17) (tgt := 59) (by decide) dX12_byAcross_52 (fun hc => ?_) (fun hc => ?_)
      · replace hf := hf.1 hc
        exact r_sub [0, 1, 3] rfl (b_X12_byAcross_59 hX29 hf)
      · replace hf := hf.2 hc
        refine r_iconst (v := 1) (by decide) dX12_byAcross_55 ?_
        refine r_goto (tgt := 60) (by decide) dX12_byAcross_56 ?_
        exact r_sub [0, 1, 3] rfl (b_X12_byAcross_60 hX29 hf)
def Z_X12_byAcross_29 (l : Launch) (G : GG) (d : Nat) (K : Int32 → Hp → Prop) : Nat → Nat → Int32 → Bool → Int32 → Hp → Prop
  | 0 => fun _ _ _ _ _ => False
  | n + 1 => fun v0 v1 v2 v3 σ => F_X12_byAcross_29 l G d (Z_X12_byAcross_29 l G d K n) v0 v1 v2 v3 σ K
theorem z_X12_byAcross_29 {l : Launch} {G : GG} {d : Nat} {K : Int32 → Hp → Prop} : ∀ (n : Nat) v0 v1 v2 v3 σ, Z_X12_byAcross_29 l G d K n v0 v1 v2 v3 σ → Wd l G (d + 1) "CoinsLaidModel" yX12_byAcross cX12_byAcross 4 (some FieldType.int) 29 [(0, aR (some v0)), (1, aI v1), (2, aI (bi v2)), (3, aI v3)] [] σ 0 0 (xM (QI K)) := by
  intro n
  induction n with
  | zero => intro v0 v1 v2 v3 σ hf; exact hf.elim
  | succ n ih => intro v0 v1 v2 v3 σ hf; exact b_X12_byAcross_29 ih hf
def F_X12_byAcross (l : Launch) (G : GG) (d : Nat) (v0 : Nat) (σ : Hp) (K : Int32 → Hp → Prop) : Prop :=
  C_X12_clear l G d v0 σ fun σ18 =>
  fZ σ18 v0 12 14 fun x20 =>
  (x20 = true →
    C_X12_standNow l G d v0 σ18 fun r22 σ21 =>
    C_X12_isHeap l G d v0 σ21 fun r24 σ23 =>
    ∃ n, Z_X12_byAcross_29 l G d K n v0 r22 r24 0 σ23) ∧
  (x20 = false →
    C_X12_no l G d v0 1 σ18 fun r26 σ25 =>
    K r26 σ25)
set_option maxRecDepth 100000 in
set_option maxHeartbeats 4000000 in
theorem b_X12_byAcross_0 {l : Launch} {G : GG} {d : Nat} {v0 : Nat} {σ : Hp} {K : Int32 → Hp → Prop} (hf : F_X12_byAcross l G d v0 σ K) : Wd l G (d + 1) "CoinsLaidModel" yX12_byAcross cX12_byAcross 4 (some FieldType.int) 0 [(0, aR (some v0))] [] σ 0 0 (xM (QI K)) := by
  unfold F_X12_byAcross at hf
  refine r_aload_n (j := 0) rfl rfl dX12_byAcross_0 ?_
  try unfold C_X12_clear at hf
  obtain ⟨⟨fs_r19, ha_r19⟩, hf⟩ := hf
  refine r_invVU (t := 12) (As := []) (dz := d) (mz := 0) (sz := 0) rfl wd_7_85 wd_7_87 wd_p_49 cf_X12_clear (Nat.le_refl _) (Nat.zero_le _) (Nat.zero_le _) (cat_ok (Nat.le_of_ble_eq_true rfl)) rfl rfl ha_r19 dX12_byAcross_1 hf (fun σ18 hk => ?_)
  replace hf := hk
  clear hk
  refine r_aload_n (j := 0) rfl rfl dX12_byAcross_4 ?_
  obtain ⟨fs_x20, x20, ha_x20, hv_x20, hf⟩ := hf
  refine r_get (Cn := RX12) (Tt := TX12) (N := 42) (n := 14) rfl uw_X12 (Nat.le_of_ble_eq_true rfl) wd_6_200 ha_x20 hv_x20 dX12_byAcross_5 ?_
  refine r_ifneZ (b := x20) (tgt := 17) (by decide) dX12_byAcross_8 (fun hc => ?_) (fun hc => ?_)
  · replace hf := hf.1 hc
    refine r_aload_n (j := 0) rfl rfl dX12_byAcross_17 ?_
    try unfold C_X12_standNow at hf
    obtain ⟨⟨fs_r22, ha_r22⟩, hf⟩ := hf
    refine r_invVI (t := 12) (As := []) (dz := d) (mz := 0) (sz := 0) rfl wd_8_26 wd_8_28 wd_p_77 cf_X12_standNow (Nat.le_refl _) (Nat.zero_le _) (Nat.zero_le _) (cat_ok (Nat.le_of_ble_eq_true rfl)) rfl rfl ha_r22 dX12_byAcross_18 hf (fun r22 σ21 hk => ?_)
    replace hf := hk
    clear hk
    refine r_istore_n (L' := [(1, aI r22), (0, aR (some v0))]) rfl rfl (Nat.le_of_ble_eq_true rfl) dX12_byAcross_21 ?_
    refine r_aload_n (j := 1) rfl rfl dX12_byAcross_22 ?_
    try unfold C_X12_isHeap at hf
    obtain ⟨⟨fs_r24, ha_r24⟩, hf⟩ := hf
    refine r_invVZ (t := 12) (As := []) (dz := d) (mz := 0) (sz := 0) rfl wd_8_137 wd_8_139 wd_p_89 cf_X12_isHeap (Nat.le_refl _) (Nat.zero_le _) (Nat.zero_le _) (cat_ok (Nat.le_of_ble_eq_true rfl)) rfl rfl ha_r24 dX12_byAcross_23 hf (fun r24 σ23 hk => ?_)
    replace hf := hk
    clear hk
    refine r_istore_n (L' := [(2, aI (bi r24)), (1, aI r22), (0, aR (some v0))]) rfl rfl (Nat.le_of_ble_eq_true rfl) dX12_byAcross_26 ?_
    refine r_iconst (v := 0) (by decide) dX12_byAcross_27 ?_
    refine r_istore_n (L' := [(3, aI 0), (2, aI (bi r24)), (1, aI r22), (0, aR (some v0))]) rfl rfl (Nat.le_of_ble_eq_true rfl) dX12_byAcross_28 ?_
    obtain ⟨n, hf⟩ := hf
    exact r_sub [3, 2, 1, 0] rfl (z_X12_byAcross_29 n _ _ _ _ _ hf)
  · replace hf := hf.2 hc
    refine r_aload_n (j := 0) rfl rfl dX12_byAcross_11 ?_
    refine r_iconst (v := 1) (by decide) dX12_byAcross_12 ?_
    try unfold C_X12_no at hf
    obtain ⟨⟨fs_r26, ha_r26⟩, hf⟩ := hf
    refine r_invVI (t := 12) (As := [aI 1]) (dz := d) (mz := 0) (sz := 0) rfl wd_7_92 wd_7_94 wd_p_50 cf_X12_no (Nat.le_refl _) (Nat.zero_le _) (Nat.zero_le _) (cat_ok (Nat.le_of_ble_eq_true rfl)) rfl rfl ha_r26 dX12_byAcross_13 hf (fun r26 σ25 hk => ?_)
    replace hf := hk
    clear hk
    exact r_ireturn rfl dX12_byAcross_16 rfl ⟨_, rfl, hf⟩
theorem m_X12_byAcross {l : Launch} {G : GG} {d : Nat} {v0 : Nat} {σ : Hp} {K : Int32 → Hp → Prop} (hr : rv σ v0 12) (hf : F_X12_byAcross l G d v0 σ K) : C_X12_byAcross l G (d + 1) v0 σ K := ⟨hr, Sp.of (by decide) (Nat.le_of_ble_eq_true rfl) (b_X12_byAcross_0 hf) rfl⟩
def F_X12_elbow_72 (l : Launch) (G : GG) (d : Nat) (X24 : Nat → Int32 → Int32 → Hp → Prop) (v0 : Nat) (v1 : Int32) (v2 : Int32) (σ : Hp) (K : Int32 → Hp → Prop) : Prop :=
  X24 v0 v1 (v2 + 1) σ
set_option maxRecDepth 100000 in
set_option maxHeartbeats 4000000 in
theorem b_X12_elbow_72 {l : Launch} {G : GG} {d : Nat} {X24 : Nat → Int32 → Int32 → Hp → Prop} {v0 : Nat} {v1 : Int32} {v2 : Int32} {σ : Hp} {K : Int32 → Hp → Prop} (hX24 : ∀ v0 v1 v2 σ, X24 v0 v1 v2 σ → Wd l G (d + 1) "CoinsLaidModel" yX12_elbow cX12_elbow 3 (some FieldType.int) 24 [(0, aR (some v0)), (1, aI v1), (2, aI v2)] [] σ 0 0 (xM (QI K))) (hf : F_X12_elbow_72 l G d X24 v0 v1 v2 σ K) : Wd l G (d + 1) "CoinsLaidModel" yX12_elbow cX12_elbow 3 (some FieldType.int) 72 [(0, aR (some v0)), (1, aI v1), (2, aI v2)] [] σ 0 0 (xM (QI K)) := by
  unfold F_X12_elbow_72 at hf
  refine r_iinc (j := 2) (w := (v2 + 1)) (L' := [(2, aI (v2 + 1)), (0, aR (some v0)), (1, aI v1)]) rfl (by rfl) rfl (Nat.le_of_ble_eq_true rfl) dX12_elbow_72 ?_
  refine r_goto (tgt := 24) (by decide) dX12_elbow_75 ?_
  exact r_sub [1, 2, 0] rfl (hX24 _ _ _ _ hf)
def F_X12_elbow_24 (l : Launch) (G : GG) (d : Nat) (X24 : Nat → Int32 → Int32 → Hp → Prop) (v0 : Nat) (v1 : Int32) (v2 : Int32) (σ : Hp) (K : Int32 → Hp → Prop) : Prop :=
  fN σ v0 12 15 fun x1 =>
  gI σ x1 5 fun x2 =>
  ((x2 : Int32) ≤ (v2 : Int32) →
    K (-2) σ) ∧
  (¬ (x2 : Int32) ≤ (v2 : Int32) →
    C_X12_takenOf l G d v1 σ fun r4 σ3 =>
    fN σ3 v0 12 15 fun x5 =>
    gI σ3 x5 16 fun x6 =>
    C_X12_hasBit l G d (r4 ||| x6) v2 σ3 fun r8 σ7 =>
    (r8 = true →
      F_X12_elbow_72 l G d X24 v0 v1 v2 σ7 K) ∧
    (r8 = false →
      C_X12_hasIt l G d v0 (v1 ||| (1 <<< (v2 &&& 31))) σ7 fun r10 σ9 =>
      C_X12_hasIt l G d v0 v1 σ9 fun r12 σ11 =>
      (((bi r10) : Int32) = ((bi r12) : Int32) →
        F_X12_elbow_72 l G d X24 v0 v1 v2 σ11 K) ∧
      (¬ ((bi r10) : Int32) = ((bi r12) : Int32) →
        K v2 σ11)))
set_option maxRecDepth 100000 in
set_option maxHeartbeats 4000000 in
theorem b_X12_elbow_24 {l : Launch} {G : GG} {d : Nat} {X24 : Nat → Int32 → Int32 → Hp → Prop} {v0 : Nat} {v1 : Int32} {v2 : Int32} {σ : Hp} {K : Int32 → Hp → Prop} (hX24 : ∀ v0 v1 v2 σ, X24 v0 v1 v2 σ → Wd l G (d + 1) "CoinsLaidModel" yX12_elbow cX12_elbow 3 (some FieldType.int) 24 [(0, aR (some v0)), (1, aI v1), (2, aI v2)] [] σ 0 0 (xM (QI K))) (hf : F_X12_elbow_24 l G d X24 v0 v1 v2 σ K) : Wd l G (d + 1) "CoinsLaidModel" yX12_elbow cX12_elbow 3 (some FieldType.int) 24 [(0, aR (some v0)), (1, aI v1), (2, aI v2)] [] σ 0 0 (xM (QI K)) := by
  unfold F_X12_elbow_24 at hf
  refine r_iload_n (j := 2) rfl rfl dX12_elbow_24 ?_
  refine r_aload_n (j := 0) rfl rfl dX12_elbow_25 ?_
  obtain ⟨fs_x1, x1, ha_x1, hv_x1, hf⟩ := hf
  refine r_get (Cn := RX12) (Tt := TX12) (N := 42) (n := 15) rfl uw_X12 (Nat.le_of_ble_eq_true rfl) wd_6_201 ha_x1 hv_x1 dX12_elbow_26 ?_
  refine r_iconst (v := 5) (by decide) dX12_elbow_29 ?_
  obtain ⟨N_x2, f_x2, ha_x2, hi_x2, hf⟩ := hf
  refine r_iald ha_x2 hi_x2 dX12_elbow_30 ?_
  generalize f_x2 (5 : Int32).toNatClampNeg = x2 at hf ⊢
  refine r_icmpge (x := v2) (y := x2) (tgt := 78) (by decide) dX12_elbow_31 (fun hc => ?_) (fun hc => ?_)
  · replace hf := hf.1 hc
    refine r_bipush (v := (-2)) (by decide) dX12_elbow_78 ?_
    exact r_ireturn rfl dX12_elbow_80 rfl ⟨_, rfl, hf⟩
  · replace hf := hf.2 hc
    refine r_iload_n (j := 1) rfl rfl dX12_elbow_34 ?_
    try unfold C_X12_takenOf at hf
    refine r_invSI (As := [aI v1]) (dz := d) (mz := 0) (sz := 0) rfl wd_8_34 wd_8_35 cf_X12_takenOf (Nat.le_refl _) (Nat.zero_le _) (Nat.zero_le _) (cat_ok (Nat.le_of_ble_eq_true rfl)) dX12_elbow_35 hf (fun r4 σ3 hk => ?_)
    replace hf := hk
    clear hk
    refine r_aload_n (j := 0) rfl rfl dX12_elbow_38 ?_
    obtain ⟨fs_x5, x5, ha_x5, hv_x5, hf⟩ := hf
    refine r_get (Cn := RX12) (Tt := TX12) (N := 42) (n := 15) rfl uw_X12 (Nat.le_of_ble_eq_true rfl) wd_6_201 ha_x5 hv_x5 dX12_elbow_39 ?_
    refine r_bipush (v := 16) (by decide) dX12_elbow_42 ?_
    obtain ⟨N_x6, f_x6, ha_x6, hi_x6, hf⟩ := hf
    refine r_iald ha_x6 hi_x6 dX12_elbow_44 ?_
    generalize f_x6 (16 : Int32).toNatClampNeg = x6 at hf ⊢
    refine r_ior (x := r4) (y := x6) dX12_elbow_45 ?_
    refine r_iload_n (j := 2) rfl rfl dX12_elbow_46 ?_
    try unfold C_X12_hasBit at hf
    refine r_invSZ (As := [aI (r4 ||| x6), aI v2]) (dz := d) (mz := 0) (sz := 0) rfl wd_7_182 wd_7_183 cf_X12_hasBit (Nat.le_refl _) (Nat.zero_le _) (Nat.zero_le _) (cat_ok (Nat.le_of_ble_eq_true rfl)) dX12_elbow_47 hf (fun r8 σ7 hk => ?_)
    replace hf := hk
    clear hk
    refine r_ifneZ (b := r8) (tgt := 72) (by decide) dX12_elbow_50 (fun hc => ?_) (fun hc => ?_)
    · replace hf := hf.1 hc
      exact r_sub [0, 1, 2] rfl (b_X12_elbow_72 hX24 hf)
    · replace hf := hf.2 hc
      refine r_aload_n (j := 0) rfl rfl dX12_elbow_53 ?_
      refine r_iload_n (j := 1) rfl rfl dX12_elbow_54 ?_
      refine r_iconst (v := 1) (by decide) dX12_elbow_55 ?_
      refine r_iload_n (j := 2) rfl rfl dX12_elbow_56 ?_
      refine r_ishl (x := 1) (y := v2) dX12_elbow_57 ?_
      refine r_ior (x := v1) (y := (1 <<< (v2 &&& 31))) dX12_elbow_58 ?_
      try unfold C_X12_hasIt at hf
      obtain ⟨⟨fs_r10, ha_r10⟩, hf⟩ := hf
      refine r_invVZ (t := 12) (As := [aI (v1 ||| (1 <<< (v2 &&& 31)))]) (dz := d) (mz := 0) (sz := 0) rfl wd_8_96 wd_8_98 wd_p_84 cf_X12_hasIt (Nat.le_refl _) (Nat.zero_le _) (Nat.zero_le _) (cat_ok (Nat.le_of_ble_eq_true rfl)) rfl rfl ha_r10 dX12_elbow_59 hf (fun r10 σ9 hk => ?_)
      replace hf := hk
      clear hk
      refine r_aload_n (j := 0) rfl rfl dX12_elbow_62 ?_
      refine r_iload_n (j := 1) rfl rfl dX12_elbow_63 ?_
      try unfold C_X12_hasIt at hf
      obtain ⟨⟨fs_r12, ha_r12⟩, hf⟩ := hf
      refine r_invVZ (t := 12) (As := [aI v1]) (dz := d) (mz := 0) (sz := 0) rfl wd_8_96 wd_8_98 wd_p_84 cf_X12_hasIt (Nat.le_refl _) (Nat.zero_le _) (Nat.zero_le _) (cat_ok (Nat.le_of_ble_eq_true rfl)) rfl rfl ha_r12 dX12_elbow_64 hf (fun r12 σ11 hk => ?_)
      replace hf := hk
      clear hk
      refine r_icmpeq (x := (bi r10)) (y := (bi r12)) (tgt := 72) (by decide) dX12_elbow_67 (fun hc => ?_) (fun hc => ?_)
      · replace hf := hf.1 hc
        exact r_sub [0, 1, 2] rfl (b_X12_elbow_72 hX24 hf)
      · replace hf := hf.2 hc
        refine r_iload_n (j := 2) rfl rfl dX12_elbow_70 ?_
        exact r_ireturn rfl dX12_elbow_71 rfl ⟨_, rfl, hf⟩
def Z_X12_elbow_24 (l : Launch) (G : GG) (d : Nat) (K : Int32 → Hp → Prop) : Nat → Nat → Int32 → Int32 → Hp → Prop
  | 0 => fun _ _ _ _ => False
  | n + 1 => fun v0 v1 v2 σ => F_X12_elbow_24 l G d (Z_X12_elbow_24 l G d K n) v0 v1 v2 σ K
theorem z_X12_elbow_24 {l : Launch} {G : GG} {d : Nat} {K : Int32 → Hp → Prop} : ∀ (n : Nat) v0 v1 v2 σ, Z_X12_elbow_24 l G d K n v0 v1 v2 σ → Wd l G (d + 1) "CoinsLaidModel" yX12_elbow cX12_elbow 3 (some FieldType.int) 24 [(0, aR (some v0)), (1, aI v1), (2, aI v2)] [] σ 0 0 (xM (QI K)) := by
  intro n
  induction n with
  | zero => intro v0 v1 v2 σ hf; exact hf.elim
  | succ n ih => intro v0 v1 v2 σ hf; exact b_X12_elbow_24 ih hf
def F_X12_elbow (l : Launch) (G : GG) (d : Nat) (v0 : Nat) (σ : Hp) (K : Int32 → Hp → Prop) : Prop :=
  C_X12_clear l G d v0 σ fun σ13 =>
  fZ σ13 v0 12 14 fun x15 =>
  (x15 = true →
    C_X12_standNow l G d v0 σ13 fun r17 σ16 =>
    ∃ n, Z_X12_elbow_24 l G d K n v0 r17 0 σ16) ∧
  (x15 = false →
    C_X12_no l G d v0 1 σ13 fun r19 σ18 =>
    K r19 σ18)
set_option maxRecDepth 100000 in
set_option maxHeartbeats 4000000 in
theorem b_X12_elbow_0 {l : Launch} {G : GG} {d : Nat} {v0 : Nat} {σ : Hp} {K : Int32 → Hp → Prop} (hf : F_X12_elbow l G d v0 σ K) : Wd l G (d + 1) "CoinsLaidModel" yX12_elbow cX12_elbow 3 (some FieldType.int) 0 [(0, aR (some v0))] [] σ 0 0 (xM (QI K)) := by
  unfold F_X12_elbow at hf
  refine r_aload_n (j := 0) rfl rfl dX12_elbow_0 ?_
  try unfold C_X12_clear at hf
  obtain ⟨⟨fs_r14, ha_r14⟩, hf⟩ := hf
  refine r_invVU (t := 12) (As := []) (dz := d) (mz := 0) (sz := 0) rfl wd_7_85 wd_7_87 wd_p_49 cf_X12_clear (Nat.le_refl _) (Nat.zero_le _) (Nat.zero_le _) (cat_ok (Nat.le_of_ble_eq_true rfl)) rfl rfl ha_r14 dX12_elbow_1 hf (fun σ13 hk => ?_)
  replace hf := hk
  clear hk
  refine r_aload_n (j := 0) rfl rfl dX12_elbow_4 ?_
  obtain ⟨fs_x15, x15, ha_x15, hv_x15, hf⟩ := hf
  refine r_get (Cn := RX12) (Tt := TX12) (N := 42) (n := 14) rfl uw_X12 (Nat.le_of_ble_eq_true rfl) wd_6_200 ha_x15 hv_x15 dX12_elbow_5 ?_
  refine r_ifneZ (b := x15) (tgt := 17) (by decide) dX12_elbow_8 (fun hc => ?_) (fun hc => ?_)
  · replace hf := hf.1 hc
    refine r_aload_n (j := 0) rfl rfl dX12_elbow_17 ?_
    try unfold C_X12_standNow at hf
    obtain ⟨⟨fs_r17, ha_r17⟩, hf⟩ := hf
    refine r_invVI (t := 12) (As := []) (dz := d) (mz := 0) (sz := 0) rfl wd_8_26 wd_8_28 wd_p_77 cf_X12_standNow (Nat.le_refl _) (Nat.zero_le _) (Nat.zero_le _) (cat_ok (Nat.le_of_ble_eq_true rfl)) rfl rfl ha_r17 dX12_elbow_18 hf (fun r17 σ16 hk => ?_)
    replace hf := hk
    clear hk
    refine r_istore_n (L' := [(1, aI r17), (0, aR (some v0))]) rfl rfl (Nat.le_of_ble_eq_true rfl) dX12_elbow_21 ?_
    refine r_iconst (v := 0) (by decide) dX12_elbow_22 ?_
    refine r_istore_n (L' := [(2, aI 0), (1, aI r17), (0, aR (some v0))]) rfl rfl (Nat.le_of_ble_eq_true rfl) dX12_elbow_23 ?_
    obtain ⟨n, hf⟩ := hf
    exact r_sub [2, 1, 0] rfl (z_X12_elbow_24 n _ _ _ _ hf)
  · replace hf := hf.2 hc
    refine r_aload_n (j := 0) rfl rfl dX12_elbow_11 ?_
    refine r_iconst (v := 1) (by decide) dX12_elbow_12 ?_
    try unfold C_X12_no at hf
    obtain ⟨⟨fs_r19, ha_r19⟩, hf⟩ := hf
    refine r_invVI (t := 12) (As := [aI 1]) (dz := d) (mz := 0) (sz := 0) rfl wd_7_92 wd_7_94 wd_p_50 cf_X12_no (Nat.le_refl _) (Nat.zero_le _) (Nat.zero_le _) (cat_ok (Nat.le_of_ble_eq_true rfl)) rfl rfl ha_r19 dX12_elbow_13 hf (fun r19 σ18 hk => ?_)
    replace hf := hk
    clear hk
    exact r_ireturn rfl dX12_elbow_16 rfl ⟨_, rfl, hf⟩
theorem m_X12_elbow {l : Launch} {G : GG} {d : Nat} {v0 : Nat} {σ : Hp} {K : Int32 → Hp → Prop} (hr : rv σ v0 12) (hf : F_X12_elbow l G d v0 σ K) : C_X12_elbow l G (d + 1) v0 σ K := ⟨hr, Sp.of (by decide) (Nat.le_of_ble_eq_true rfl) (b_X12_elbow_0 hf) rfl⟩
def F_X12_fewest_27 (l : Launch) (G : GG) (d : Nat) (s0 : Int32) (σ : Hp) (K : Int32 → Hp → Prop) : Prop :=
  K s0 σ
set_option maxRecDepth 100000 in
set_option maxHeartbeats 4000000 in
theorem b_X12_fewest_27 {l : Launch} {G : GG} {d : Nat} {s0 : Int32} {σ : Hp} {K : Int32 → Hp → Prop} (hf : F_X12_fewest_27 l G d s0 σ K) : Wd l G (d + 1) "CoinsLaidModel" yX12_fewest cX12_fewest 1 (some FieldType.int) 27 [] [aI s0] σ 0 0 (xM (QI K)) := by
  unfold F_X12_fewest_27 at hf
  exact r_ireturn rfl dX12_fewest_27 rfl ⟨_, rfl, hf⟩
def F_X12_fewest (l : Launch) (G : GG) (d : Nat) (v0 : Nat) (σ : Hp) (K : Int32 → Hp → Prop) : Prop :=
  C_X12_clear l G d v0 σ fun σ1 =>
  fZ σ1 v0 12 14 fun x3 =>
  (x3 = false →
    C_X12_no l G d v0 1 σ1 fun r5 σ4 =>
    F_X12_fewest_27 l G d r5 σ4 K) ∧
  (x3 = true →
    C_X12_standNow l G d v0 σ1 fun r7 σ6 =>
    C_X12_fewestFrom l G d v0 r7 σ6 fun r9 σ8 =>
    F_X12_fewest_27 l G d r9 σ8 K)
set_option maxRecDepth 100000 in
set_option maxHeartbeats 4000000 in
theorem b_X12_fewest_0 {l : Launch} {G : GG} {d : Nat} {v0 : Nat} {σ : Hp} {K : Int32 → Hp → Prop} (hf : F_X12_fewest l G d v0 σ K) : Wd l G (d + 1) "CoinsLaidModel" yX12_fewest cX12_fewest 1 (some FieldType.int) 0 [(0, aR (some v0))] [] σ 0 0 (xM (QI K)) := by
  unfold F_X12_fewest at hf
  refine r_aload_n (j := 0) rfl rfl dX12_fewest_0 ?_
  try unfold C_X12_clear at hf
  obtain ⟨⟨fs_r2, ha_r2⟩, hf⟩ := hf
  refine r_invVU (t := 12) (As := []) (dz := d) (mz := 0) (sz := 0) rfl wd_7_85 wd_7_87 wd_p_49 cf_X12_clear (Nat.le_refl _) (Nat.zero_le _) (Nat.zero_le _) (cat_ok (Nat.le_of_ble_eq_true rfl)) rfl rfl ha_r2 dX12_fewest_1 hf (fun σ1 hk => ?_)
  replace hf := hk
  clear hk
  refine r_aload_n (j := 0) rfl rfl dX12_fewest_4 ?_
  obtain ⟨fs_x3, x3, ha_x3, hv_x3, hf⟩ := hf
  refine r_get (Cn := RX12) (Tt := TX12) (N := 42) (n := 14) rfl uw_X12 (Nat.le_of_ble_eq_true rfl) wd_6_200 ha_x3 hv_x3 dX12_fewest_5 ?_
  refine r_ifeqZ (b := x3) (tgt := 22) (by decide) dX12_fewest_8 (fun hc => ?_) (fun hc => ?_)
  · replace hf := hf.1 hc
    refine r_aload_n (j := 0) rfl rfl dX12_fewest_22 ?_
    refine r_iconst (v := 1) (by decide) dX12_fewest_23 ?_
    try unfold C_X12_no at hf
    obtain ⟨⟨fs_r5, ha_r5⟩, hf⟩ := hf
    refine r_invVI (t := 12) (As := [aI 1]) (dz := d) (mz := 0) (sz := 0) rfl wd_7_92 wd_7_94 wd_p_50 cf_X12_no (Nat.le_refl _) (Nat.zero_le _) (Nat.zero_le _) (cat_ok (Nat.le_of_ble_eq_true rfl)) rfl rfl ha_r5 dX12_fewest_24 hf (fun r5 σ4 hk => ?_)
    replace hf := hk
    clear hk
    exact r_sub [] rfl (b_X12_fewest_27 hf)
  · replace hf := hf.2 hc
    refine r_aload_n (j := 0) rfl rfl dX12_fewest_11 ?_
    refine r_aload_n (j := 0) rfl rfl dX12_fewest_12 ?_
    try unfold C_X12_standNow at hf
    obtain ⟨⟨fs_r7, ha_r7⟩, hf⟩ := hf
    refine r_invVI (t := 12) (As := []) (dz := d) (mz := 0) (sz := 0) rfl wd_8_26 wd_8_28 wd_p_77 cf_X12_standNow (Nat.le_refl _) (Nat.zero_le _) (Nat.zero_le _) (cat_ok (Nat.le_of_ble_eq_true rfl)) rfl rfl ha_r7 dX12_fewest_13 hf (fun r7 σ6 hk => ?_)
    replace hf := hk
    clear hk
    try unfold C_X12_fewestFrom at hf
    obtain ⟨⟨fs_r9, ha_r9⟩, hf⟩ := hf
    refine r_invVI (t := 12) (As := [aI r7]) (dz := d) (mz := 0) (sz := 0) rfl wd_8_173 wd_8_175 wd_p_94 cf_X12_fewestFrom (Nat.le_refl _) (Nat.zero_le _) (Nat.zero_le _) (cat_ok (Nat.le_of_ble_eq_true rfl)) rfl rfl ha_r9 dX12_fewest_16 hf (fun r9 σ8 hk => ?_)
    replace hf := hk
    clear hk
    refine r_goto (tgt := 27) (by decide) dX12_fewest_19 ?_
    exact r_sub [] rfl (b_X12_fewest_27 hf)
theorem m_X12_fewest {l : Launch} {G : GG} {d : Nat} {v0 : Nat} {σ : Hp} {K : Int32 → Hp → Prop} (hr : rv σ v0 12) (hf : F_X12_fewest l G d v0 σ K) : C_X12_fewest l G (d + 1) v0 σ K := ⟨hr, Sp.of (by decide) (Nat.le_of_ble_eq_true rfl) (b_X12_fewest_0 hf) rfl⟩
def F_X12_most_27 (l : Launch) (G : GG) (d : Nat) (s0 : Int32) (σ : Hp) (K : Int32 → Hp → Prop) : Prop :=
  K s0 σ
set_option maxRecDepth 100000 in
set_option maxHeartbeats 4000000 in
theorem b_X12_most_27 {l : Launch} {G : GG} {d : Nat} {s0 : Int32} {σ : Hp} {K : Int32 → Hp → Prop} (hf : F_X12_most_27 l G d s0 σ K) : Wd l G (d + 1) "CoinsLaidModel" yX12_most cX12_most 1 (some FieldType.int) 27 [] [aI s0] σ 0 0 (xM (QI K)) := by
  unfold F_X12_most_27 at hf
  exact r_ireturn rfl dX12_most_27 rfl ⟨_, rfl, hf⟩
def F_X12_most (l : Launch) (G : GG) (d : Nat) (v0 : Nat) (σ : Hp) (K : Int32 → Hp → Prop) : Prop :=
  C_X12_clear l G d v0 σ fun σ1 =>
  fZ σ1 v0 12 14 fun x3 =>
  (x3 = false →
    C_X12_no l G d v0 1 σ1 fun r5 σ4 =>
    F_X12_most_27 l G d r5 σ4 K) ∧
  (x3 = true →
    C_X12_standNow l G d v0 σ1 fun r7 σ6 =>
    C_X12_mostFrom l G d v0 r7 σ6 fun r9 σ8 =>
    F_X12_most_27 l G d r9 σ8 K)
set_option maxRecDepth 100000 in
set_option maxHeartbeats 4000000 in
theorem b_X12_most_0 {l : Launch} {G : GG} {d : Nat} {v0 : Nat} {σ : Hp} {K : Int32 → Hp → Prop} (hf : F_X12_most l G d v0 σ K) : Wd l G (d + 1) "CoinsLaidModel" yX12_most cX12_most 1 (some FieldType.int) 0 [(0, aR (some v0))] [] σ 0 0 (xM (QI K)) := by
  unfold F_X12_most at hf
  refine r_aload_n (j := 0) rfl rfl dX12_most_0 ?_
  try unfold C_X12_clear at hf
  obtain ⟨⟨fs_r2, ha_r2⟩, hf⟩ := hf
  refine r_invVU (t := 12) (As := []) (dz := d) (mz := 0) (sz := 0) rfl wd_7_85 wd_7_87 wd_p_49 cf_X12_clear (Nat.le_refl _) (Nat.zero_le _) (Nat.zero_le _) (cat_ok (Nat.le_of_ble_eq_true rfl)) rfl rfl ha_r2 dX12_most_1 hf (fun σ1 hk => ?_)
  replace hf := hk
  clear hk
  refine r_aload_n (j := 0) rfl rfl dX12_most_4 ?_
  obtain ⟨fs_x3, x3, ha_x3, hv_x3, hf⟩ := hf
  refine r_get (Cn := RX12) (Tt := TX12) (N := 42) (n := 14) rfl uw_X12 (Nat.le_of_ble_eq_true rfl) wd_6_200 ha_x3 hv_x3 dX12_most_5 ?_
  refine r_ifeqZ (b := x3) (tgt := 22) (by decide) dX12_most_8 (fun hc => ?_) (fun hc => ?_)
  · replace hf := hf.1 hc
    refine r_aload_n (j := 0) rfl rfl dX12_most_22 ?_
    refine r_iconst (v := 1) (by decide) dX12_most_23 ?_
    try unfold C_X12_no at hf
    obtain ⟨⟨fs_r5, ha_r5⟩, hf⟩ := hf
    refine r_invVI (t := 12) (As := [aI 1]) (dz := d) (mz := 0) (sz := 0) rfl wd_7_92 wd_7_94 wd_p_50 cf_X12_no (Nat.le_refl _) (Nat.zero_le _) (Nat.zero_le _) (cat_ok (Nat.le_of_ble_eq_true rfl)) rfl rfl ha_r5 dX12_most_24 hf (fun r5 σ4 hk => ?_)
    replace hf := hk
    clear hk
    exact r_sub [] rfl (b_X12_most_27 hf)
  · replace hf := hf.2 hc
    refine r_aload_n (j := 0) rfl rfl dX12_most_11 ?_
    refine r_aload_n (j := 0) rfl rfl dX12_most_12 ?_
    try unfold C_X12_standNow at hf
    obtain ⟨⟨fs_r7, ha_r7⟩, hf⟩ := hf
    refine r_invVI (t := 12) (As := []) (dz := d) (mz := 0) (sz := 0) rfl wd_8_26 wd_8_28 wd_p_77 cf_X12_standNow (Nat.le_refl _) (Nat.zero_le _) (Nat.zero_le _) (cat_ok (Nat.le_of_ble_eq_true rfl)) rfl rfl ha_r7 dX12_most_13 hf (fun r7 σ6 hk => ?_)
    replace hf := hk
    clear hk
    try unfold C_X12_mostFrom at hf
    obtain ⟨⟨fs_r9, ha_r9⟩, hf⟩ := hf
    refine r_invVI (t := 12) (As := [aI r7]) (dz := d) (mz := 0) (sz := 0) rfl wd_8_181 wd_8_183 wd_p_95 cf_X12_mostFrom (Nat.le_refl _) (Nat.zero_le _) (Nat.zero_le _) (cat_ok (Nat.le_of_ble_eq_true rfl)) rfl rfl ha_r9 dX12_most_16 hf (fun r9 σ8 hk => ?_)
    replace hf := hk
    clear hk
    refine r_goto (tgt := 27) (by decide) dX12_most_19 ?_
    exact r_sub [] rfl (b_X12_most_27 hf)
theorem m_X12_most {l : Launch} {G : GG} {d : Nat} {v0 : Nat} {σ : Hp} {K : Int32 → Hp → Prop} (hr : rv σ v0 12) (hf : F_X12_most l G d v0 σ K) : C_X12_most l G (d + 1) v0 σ K := ⟨hr, Sp.of (by decide) (Nat.le_of_ble_eq_true rfl) (b_X12_most_0 hf) rfl⟩
def F_X12_lot_27 (l : Launch) (G : GG) (d : Nat) (s0 : Int32) (σ : Hp) (K : Int32 → Hp → Prop) : Prop :=
  K s0 σ
set_option maxRecDepth 100000 in
set_option maxHeartbeats 4000000 in
theorem b_X12_lot_27 {l : Launch} {G : GG} {d : Nat} {s0 : Int32} {σ : Hp} {K : Int32 → Hp → Prop} (hf : F_X12_lot_27 l G d s0 σ K) : Wd l G (d + 1) "CoinsLaidModel" yX12_lot cX12_lot 1 (some FieldType.int) 27 [] [aI s0] σ 0 0 (xM (QI K)) := by
  unfold F_X12_lot_27 at hf
  exact r_ireturn rfl dX12_lot_27 rfl ⟨_, rfl, hf⟩
def F_X12_lot (l : Launch) (G : GG) (d : Nat) (v0 : Nat) (σ : Hp) (K : Int32 → Hp → Prop) : Prop :=
  C_X12_clear l G d v0 σ fun σ1 =>
  fZ σ1 v0 12 14 fun x3 =>
  (x3 = false →
    C_X12_no l G d v0 1 σ1 fun r5 σ4 =>
    F_X12_lot_27 l G d r5 σ4 K) ∧
  (x3 = true →
    C_X12_standNow l G d v0 σ1 fun r7 σ6 =>
    C_X12_lotFrom l G d v0 r7 σ6 fun r9 σ8 =>
    F_X12_lot_27 l G d r9 σ8 K)
set_option maxRecDepth 100000 in
set_option maxHeartbeats 4000000 in
theorem b_X12_lot_0 {l : Launch} {G : GG} {d : Nat} {v0 : Nat} {σ : Hp} {K : Int32 → Hp → Prop} (hf : F_X12_lot l G d v0 σ K) : Wd l G (d + 1) "CoinsLaidModel" yX12_lot cX12_lot 1 (some FieldType.int) 0 [(0, aR (some v0))] [] σ 0 0 (xM (QI K)) := by
  unfold F_X12_lot at hf
  refine r_aload_n (j := 0) rfl rfl dX12_lot_0 ?_
  try unfold C_X12_clear at hf
  obtain ⟨⟨fs_r2, ha_r2⟩, hf⟩ := hf
  refine r_invVU (t := 12) (As := []) (dz := d) (mz := 0) (sz := 0) rfl wd_7_85 wd_7_87 wd_p_49 cf_X12_clear (Nat.le_refl _) (Nat.zero_le _) (Nat.zero_le _) (cat_ok (Nat.le_of_ble_eq_true rfl)) rfl rfl ha_r2 dX12_lot_1 hf (fun σ1 hk => ?_)
  replace hf := hk
  clear hk
  refine r_aload_n (j := 0) rfl rfl dX12_lot_4 ?_
  obtain ⟨fs_x3, x3, ha_x3, hv_x3, hf⟩ := hf
  refine r_get (Cn := RX12) (Tt := TX12) (N := 42) (n := 14) rfl uw_X12 (Nat.le_of_ble_eq_true rfl) wd_6_200 ha_x3 hv_x3 dX12_lot_5 ?_
  refine r_ifeqZ (b := x3) (tgt := 22) (by decide) dX12_lot_8 (fun hc => ?_) (fun hc => ?_)
  · replace hf := hf.1 hc
    refine r_aload_n (j := 0) rfl rfl dX12_lot_22 ?_
    refine r_iconst (v := 1) (by decide) dX12_lot_23 ?_
    try unfold C_X12_no at hf
    obtain ⟨⟨fs_r5, ha_r5⟩, hf⟩ := hf
    refine r_invVI (t := 12) (As := [aI 1]) (dz := d) (mz := 0) (sz := 0) rfl wd_7_92 wd_7_94 wd_p_50 cf_X12_no (Nat.le_refl _) (Nat.zero_le _) (Nat.zero_le _) (cat_ok (Nat.le_of_ble_eq_true rfl)) rfl rfl ha_r5 dX12_lot_24 hf (fun r5 σ4 hk => ?_)
    replace hf := hk
    clear hk
    exact r_sub [] rfl (b_X12_lot_27 hf)
  · replace hf := hf.2 hc
    refine r_aload_n (j := 0) rfl rfl dX12_lot_11 ?_
    refine r_aload_n (j := 0) rfl rfl dX12_lot_12 ?_
    try unfold C_X12_standNow at hf
    obtain ⟨⟨fs_r7, ha_r7⟩, hf⟩ := hf
    refine r_invVI (t := 12) (As := []) (dz := d) (mz := 0) (sz := 0) rfl wd_8_26 wd_8_28 wd_p_77 cf_X12_standNow (Nat.le_refl _) (Nat.zero_le _) (Nat.zero_le _) (cat_ok (Nat.le_of_ble_eq_true rfl)) rfl rfl ha_r7 dX12_lot_13 hf (fun r7 σ6 hk => ?_)
    replace hf := hk
    clear hk
    try unfold C_X12_lotFrom at hf
    obtain ⟨⟨fs_r9, ha_r9⟩, hf⟩ := hf
    refine r_invVI (t := 12) (As := [aI r7]) (dz := d) (mz := 0) (sz := 0) rfl wd_8_189 wd_8_191 wd_p_96 cf_X12_lotFrom (Nat.le_refl _) (Nat.zero_le _) (Nat.zero_le _) (cat_ok (Nat.le_of_ble_eq_true rfl)) rfl rfl ha_r9 dX12_lot_16 hf (fun r9 σ8 hk => ?_)
    replace hf := hk
    clear hk
    refine r_goto (tgt := 27) (by decide) dX12_lot_19 ?_
    exact r_sub [] rfl (b_X12_lot_27 hf)
theorem m_X12_lot {l : Launch} {G : GG} {d : Nat} {v0 : Nat} {σ : Hp} {K : Int32 → Hp → Prop} (hr : rv σ v0 12) (hf : F_X12_lot l G d v0 σ K) : C_X12_lot l G (d + 1) v0 σ K := ⟨hr, Sp.of (by decide) (Nat.le_of_ble_eq_true rfl) (b_X12_lot_0 hf) rfl⟩
def F_X12_laySizes_85 (l : Launch) (G : GG) (d : Nat) (X2 : Nat → Int32 → Int32 → Hp → Prop) (X17 : Nat → Int32 → Int32 → Int64 → Int64 → Int32 → Hp → Prop) (v0 : Nat) (v1 : Int32) (v2 : Int32) (v3 : Int64) (v5 : Int64) (v7 : Int32) (σ : Hp) (K : Hp → Prop) : Prop :=
  X17 v0 v1 v2 v3 v5 (v7 + 1) σ
set_option maxRecDepth 100000 in
set_option maxHeartbeats 4000000 in
theorem b_X12_laySizes_85 {l : Launch} {G : GG} {d : Nat} {X2 : Nat → Int32 → Int32 → Hp → Prop} {X17 : Nat → Int32 → Int32 → Int64 → Int64 → Int32 → Hp → Prop} {v0 : Nat} {v1 : Int32} {v2 : Int32} {v3 : Int64} {v5 : Int64} {v7 : Int32} {σ : Hp} {K : Hp → Prop} (hX2 : ∀ v0 v1 v2 σ, X2 v0 v1 v2 σ → Wd l G (d + 1) "CoinsLaidModel" yX12_laySizes cX12_laySizes 9 none 2 [(0, aR (some v0)), (1, aI v1), (2, aI v2)] [] σ 0 0 (xM (QV K))) (hX17 : ∀ v0 v1 v2 v3 v5 v7 σ, X17 v0 v1 v2 v3 v5 v7 σ → Wd l G (d + 1) "CoinsLaidModel" yX12_laySizes cX12_laySizes 9 none 17 [(0, aR (some v0)), (1, aI v1), (2, aI v2), (3, aJ v3), (5, aJ v5), (7, aI v7)] [] σ 0 0 (xM (QV K))) (hf : F_X12_laySizes_85 l G d X2 X17 v0 v1 v2 v3 v5 v7 σ K) : Wd l G (d + 1) "CoinsLaidModel" yX12_laySizes cX12_laySizes 9 none 85 [(0, aR (some v0)), (1, aI v1), (2, aI v2), (3, aJ v3), (5, aJ v5), (7, aI v7)] [] σ 0 0 (xM (QV K)) := by
  unfold F_X12_laySizes_85 at hf
  refine r_iinc (j := 5) (w := (v7 + 1)) (L' := [(7, aI (v7 + 1)), (0, aR (some v0)), (1, aI v1), (2, aI v2), (3, aJ v3), (5, aJ v5)]) rfl (by rfl) rfl (Nat.le_of_ble_eq_true rfl) dX12_laySizes_85 ?_
  refine r_goto (tgt := 17) (by decide) dX12_laySizes_88 ?_
  exact r_sub [1, 2, 3, 4, 5, 0] rfl (hX17 _ _ _ _ _ _ _ hf)
def F_X12_laySizes_107 (l : Launch) (G : GG) (d : Nat) (X2 : Nat → Int32 → Int32 → Hp → Prop) (X94 : Nat → Int32 → Int32 → Int64 → Int64 → Int32 → Hp → Prop) (v0 : Nat) (v1 : Int32) (v2 : Int32) (v3 : Int64) (v5 : Int64) (v7 : Int32) (s0 : Int64) (σ : Hp) (K : Hp → Prop) : Prop :=
  ¬ (64 : Int32) = 0 ∧
  (¬ ((lg_cmp ((s0 >>> (((v7 - v7 / 64 * 64) : Int32).toInt64 &&& 63)) &&& (1 : Int64)) (1 : Int64)) : Int32) = 0 →
    fN σ v0 12 39 fun x1 =>
    sI σ x1 v2 v7 fun σ2 =>
    X2 v0 v1 (v2 + 1) σ2) ∧
  (((lg_cmp ((s0 >>> (((v7 - v7 / 64 * 64) : Int32).toInt64 &&& 63)) &&& (1 : Int64)) (1 : Int64)) : Int32) = 0 →
    X94 v0 v1 v2 v3 v5 (v7 + 1) σ)
set_option maxRecDepth 100000 in
set_option maxHeartbeats 4000000 in
theorem b_X12_laySizes_107 {l : Launch} {G : GG} {d : Nat} {X2 : Nat → Int32 → Int32 → Hp → Prop} {X94 : Nat → Int32 → Int32 → Int64 → Int64 → Int32 → Hp → Prop} {v0 : Nat} {v1 : Int32} {v2 : Int32} {v3 : Int64} {v5 : Int64} {v7 : Int32} {s0 : Int64} {σ : Hp} {K : Hp → Prop} (hX2 : ∀ v0 v1 v2 σ, X2 v0 v1 v2 σ → Wd l G (d + 1) "CoinsLaidModel" yX12_laySizes cX12_laySizes 9 none 2 [(0, aR (some v0)), (1, aI v1), (2, aI v2)] [] σ 0 0 (xM (QV K))) (hX94 : ∀ v0 v1 v2 v3 v5 v7 σ, X94 v0 v1 v2 v3 v5 v7 σ → Wd l G (d + 1) "CoinsLaidModel" yX12_laySizes cX12_laySizes 9 none 94 [(0, aR (some v0)), (1, aI v1), (2, aI v2), (3, aJ v3), (5, aJ v5), (7, aI v7)] [] σ 0 0 (xM (QV K))) (hf : F_X12_laySizes_107 l G d X2 X94 v0 v1 v2 v3 v5 v7 s0 σ K) : Wd l G (d + 1) "CoinsLaidModel" yX12_laySizes cX12_laySizes 9 none 107 [(0, aR (some v0)), (1, aI v1), (2, aI v2), (3, aJ v3), (5, aJ v5), (7, aI v7)] [aJ s0] σ 0 0 (xM (QV K)) := by
  unfold F_X12_laySizes_107 at hf
  refine r_iload (j := 5) rfl dX12_laySizes_107 ?_
  refine r_bipush (v := 64) (by decide) dX12_laySizes_109 ?_
  obtain ⟨hne, hf⟩ := hf
  refine r_irem hne dX12_laySizes_111 ?_
  refine r_lshr (x := s0) (y := (v7 - v7 / 64 * 64)) dX12_laySizes_112 ?_
  refine r_lconst (v := 1) (by decide) dX12_laySizes_113 ?_
  refine r_land (x := (s0 >>> (((v7 - v7 / 64 * 64) : Int32).toInt64 &&& 63))) (y := (1 : Int64)) dX12_laySizes_114 ?_
  refine r_lconst (v := 1) (by decide) dX12_laySizes_115 ?_
  refine r_lcmp (x := ((s0 >>> (((v7 - v7 / 64 * 64) : Int32).toInt64 &&& 63)) &&& (1 : Int64))) (y := (1 : Int64)) dX12_laySizes_116 ?_
  refine r_ifne (x := (lg_cmp ((s0 >>> (((v7 - v7 / 64 * 64) : Int32).toInt64 &&& 63)) &&& (1 : Int64)) (1 : Int64))) (tgt := 126) (by decide) dX12_laySizes_117 (fun hc => ?_) (fun hc => ?_)
  · replace hf := hf.1 hc
    refine r_aload_n (j := 0) rfl rfl dX12_laySizes_126 ?_
    obtain ⟨fs_x1, x1, ha_x1, hv_x1, hf⟩ := hf
    refine r_get (Cn := RX12) (Tt := TX12) (N := 42) (n := 39) rfl uw_X12 (Nat.le_of_ble_eq_true rfl) wd_6_225 ha_x1 hv_x1 dX12_laySizes_127 ?_
    refine r_iload_n (j := 2) rfl rfl dX12_laySizes_130 ?_
    refine r_iload (j := 5) rfl dX12_laySizes_131 ?_
    obtain ⟨N_x3, f_x3, ha_x3, hi_x3, hf⟩ := hf
    generalize hσ2 : hset σ x1 (iA N_x3 (up_ f_x3 (v2 : Int32).toNatClampNeg v7)) = σ2 at hf
    refine r_iast (f := f_x3) (x := v7) ha_x3 hi_x3 dX12_laySizes_133 ?_
    refine Eq.mpr (congrArg (fun z => Wd _ _ _ _ _ _ _ _ _ _ _ z _ _ _) hσ2) ?_
    refine r_iinc (j := 2) (w := (v2 + 1)) (L' := [(2, aI (v2 + 1)), (0, aR (some v0)), (1, aI v1), (3, aJ v3), (5, aJ v5), (7, aI v7)]) rfl (by rfl) rfl (Nat.le_of_ble_eq_true rfl) dX12_laySizes_134 ?_
    refine r_goto (tgt := 2) (by decide) dX12_laySizes_137 ?_
    exact r_sub [1, 2, 0] rfl (hX2 _ _ _ _ hf)
  · replace hf := hf.2 hc
    refine r_iinc (j := 5) (w := (v7 + 1)) (L' := [(7, aI (v7 + 1)), (0, aR (some v0)), (1, aI v1), (2, aI v2), (3, aJ v3), (5, aJ v5)]) rfl (by rfl) rfl (Nat.le_of_ble_eq_true rfl) dX12_laySizes_120 ?_
    refine r_goto (tgt := 94) (by decide) dX12_laySizes_123 ?_
    exact r_sub [1, 2, 3, 4, 5, 0] rfl (hX94 _ _ _ _ _ _ _ hf)
def F_X12_laySizes_94 (l : Launch) (G : GG) (d : Nat) (X2 : Nat → Int32 → Int32 → Hp → Prop) (X94 : Nat → Int32 → Int32 → Int64 → Int64 → Int32 → Hp → Prop) (v0 : Nat) (v1 : Int32) (v2 : Int32) (v3 : Int64) (v5 : Int64) (v7 : Int32) (σ : Hp) (K : Hp → Prop) : Prop :=
  ((64 : Int32) ≤ (v7 : Int32) →
    F_X12_laySizes_107 l G d X2 X94 v0 v1 v2 v3 v5 v7 v5 σ K) ∧
  (¬ (64 : Int32) ≤ (v7 : Int32) →
    F_X12_laySizes_107 l G d X2 X94 v0 v1 v2 v3 v5 v7 v3 σ K)
set_option maxRecDepth 100000 in
set_option maxHeartbeats 4000000 in
theorem b_X12_laySizes_94 {l : Launch} {G : GG} {d : Nat} {X2 : Nat → Int32 → Int32 → Hp → Prop} {X94 : Nat → Int32 → Int32 → Int64 → Int64 → Int32 → Hp → Prop} {v0 : Nat} {v1 : Int32} {v2 : Int32} {v3 : Int64} {v5 : Int64} {v7 : Int32} {σ : Hp} {K : Hp → Prop} (hX2 : ∀ v0 v1 v2 σ, X2 v0 v1 v2 σ → Wd l G (d + 1) "CoinsLaidModel" yX12_laySizes cX12_laySizes 9 none 2 [(0, aR (some v0)), (1, aI v1), (2, aI v2)] [] σ 0 0 (xM (QV K))) (hX94 : ∀ v0 v1 v2 v3 v5 v7 σ, X94 v0 v1 v2 v3 v5 v7 σ → Wd l G (d + 1) "CoinsLaidModel" yX12_laySizes cX12_laySizes 9 none 94 [(0, aR (some v0)), (1, aI v1), (2, aI v2), (3, aJ v3), (5, aJ v5), (7, aI v7)] [] σ 0 0 (xM (QV K))) (hf : F_X12_laySizes_94 l G d X2 X94 v0 v1 v2 v3 v5 v7 σ K) : Wd l G (d + 1) "CoinsLaidModel" yX12_laySizes cX12_laySizes 9 none 94 [(0, aR (some v0)), (1, aI v1), (2, aI v2), (3, aJ v3), (5, aJ v5), (7, aI v7)] [] σ 0 0 (xM (QV K)) := by
  unfold F_X12_laySizes_94 at hf
  refine r_iload (j := 5) rfl dX12_laySizes_94 ?_
  refine r_bipush (v := 64) (by decide) dX12_laySizes_96 ?_
  refine r_icmpge (x := v7) (y := 64) (tgt := 105) (by decide) dX12_laySizes_98 (fun hc => ?_) (fun hc => ?_)
  · replace hf := hf.1 hc
    refine r_lload (j := 4) rfl dX12_laySizes_105 ?_
    exact r_sub [0, 1, 2, 3, 4, 5] rfl (b_X12_laySizes_107 hX2 hX94 hf)
  · replace hf := hf.2 hc
    refine r_lload_n (j := 3) rfl rfl dX12_laySizes_101 ?_
    refine r_goto (tgt := 107) (by decide) dX12_laySizes_102 ?_
    exact r_sub [0, 1, 2, 3, 4, 5] rfl (b_X12_laySizes_107 hX2 hX94 hf)
def Z_X12_laySizes_94 (l : Launch) (G : GG) (d : Nat) (X2 : Nat → Int32 → Int32 → Hp → Prop) (K : Hp → Prop) : Nat → Nat → Int32 → Int32 → Int64 → Int64 → Int32 → Hp → Prop
  | 0 => fun _ _ _ _ _ _ _ => False
  | n + 1 => fun v0 v1 v2 v3 v5 v7 σ => F_X12_laySizes_94 l G d X2 (Z_X12_laySizes_94 l G d X2 K n) v0 v1 v2 v3 v5 v7 σ K
theorem z_X12_laySizes_94 {l : Launch} {G : GG} {d : Nat} {X2 : Nat → Int32 → Int32 → Hp → Prop} {K : Hp → Prop} (hX2 : ∀ v0 v1 v2 σ, X2 v0 v1 v2 σ → Wd l G (d + 1) "CoinsLaidModel" yX12_laySizes cX12_laySizes 9 none 2 [(0, aR (some v0)), (1, aI v1), (2, aI v2)] [] σ 0 0 (xM (QV K))) : ∀ (n : Nat) v0 v1 v2 v3 v5 v7 σ, Z_X12_laySizes_94 l G d X2 K n v0 v1 v2 v3 v5 v7 σ → Wd l G (d + 1) "CoinsLaidModel" yX12_laySizes cX12_laySizes 9 none 94 [(0, aR (some v0)), (1, aI v1), (2, aI v2), (3, aJ v3), (5, aJ v5), (7, aI v7)] [] σ 0 0 (xM (QV K)) := by
  intro n
  induction n with
  | zero => intro v0 v1 v2 v3 v5 v7 σ hf; exact hf.elim
  | succ n ih => intro v0 v1 v2 v3 v5 v7 σ hf; exact b_X12_laySizes_94 hX2 ih hf
def F_X12_laySizes_91 (l : Launch) (G : GG) (d : Nat) (X2 : Nat → Int32 → Int32 → Hp → Prop) (v0 : Nat) (v1 : Int32) (v2 : Int32) (v3 : Int64) (v5 : Int64) (σ : Hp) (K : Hp → Prop) : Prop :=
  ∃ n, Z_X12_laySizes_94 l G d X2 K n v0 v1 v2 v3 v5 0 σ
set_option maxRecDepth 100000 in
set_option maxHeartbeats 4000000 in
theorem b_X12_laySizes_91 {l : Launch} {G : GG} {d : Nat} {X2 : Nat → Int32 → Int32 → Hp → Prop} {v0 : Nat} {v1 : Int32} {v2 : Int32} {v3 : Int64} {v5 : Int64} {σ : Hp} {K : Hp → Prop} (hX2 : ∀ v0 v1 v2 σ, X2 v0 v1 v2 σ → Wd l G (d + 1) "CoinsLaidModel" yX12_laySizes cX12_laySizes 9 none 2 [(0, aR (some v0)), (1, aI v1), (2, aI v2)] [] σ 0 0 (xM (QV K))) (hf : F_X12_laySizes_91 l G d X2 v0 v1 v2 v3 v5 σ K) : Wd l G (d + 1) "CoinsLaidModel" yX12_laySizes cX12_laySizes 9 none 91 [(0, aR (some v0)), (1, aI v1), (2, aI v2), (3, aJ v3), (5, aJ v5)] [] σ 0 0 (xM (QV K)) := by
  unfold F_X12_laySizes_91 at hf
  refine r_iconst (v := 0) (by decide) dX12_laySizes_91 ?_
  refine r_istore (L' := [(7, aI 0), (0, aR (some v0)), (1, aI v1), (2, aI v2), (3, aJ v3), (5, aJ v5)]) rfl (Nat.le_of_ble_eq_true rfl) dX12_laySizes_92 ?_
  obtain ⟨n, hf⟩ := hf
  exact r_sub [1, 2, 3, 4, 5, 0] rfl (z_X12_laySizes_94 hX2 n _ _ _ _ _ _ _ hf)
def F_X12_laySizes_17 (l : Launch) (G : GG) (d : Nat) (X2 : Nat → Int32 → Int32 → Hp → Prop) (X17 : Nat → Int32 → Int32 → Int64 → Int64 → Int32 → Hp → Prop) (v0 : Nat) (v1 : Int32) (v2 : Int32) (v3 : Int64) (v5 : Int64) (v7 : Int32) (σ : Hp) (K : Hp → Prop) : Prop :=
  ((v2 : Int32) < ((v7 + v1) : Int32) →
    F_X12_laySizes_91 l G d X2 v0 v1 v2 v3 v5 σ K) ∧
  (¬ (v2 : Int32) < ((v7 + v1) : Int32) →
    (((v2 - v1) : Int32) < ((2 * v7) : Int32) →
      F_X12_laySizes_91 l G d X2 v0 v1 v2 v3 v5 σ K) ∧
    (¬ ((v2 - v1) : Int32) < ((2 * v7) : Int32) →
      fN σ v0 12 39 fun x4 =>
      gI σ x4 v7 fun x5 =>
      fN σ v0 12 39 fun x6 =>
      gI σ x6 ((v2 - v1) - v7) fun x7 =>
      ((64 : Int32) ≤ ((x5 ^^^ x7) : Int32) →
        F_X12_laySizes_85 l G d X2 X17 v0 v1 v2 v3 (v5 ||| ((1 : Int64) <<< ((((x5 ^^^ x7) - 64) : Int32).toInt64 &&& 63))) v7 σ K) ∧
      (¬ (64 : Int32) ≤ ((x5 ^^^ x7) : Int32) →
        F_X12_laySizes_85 l G d X2 X17 v0 v1 v2 (v3 ||| ((1 : Int64) <<< (((x5 ^^^ x7) : Int32).toInt64 &&& 63))) v5 v7 σ K)))
set_option maxRecDepth 100000 in
set_option maxHeartbeats 4000000 in
theorem b_X12_laySizes_17 {l : Launch} {G : GG} {d : Nat} {X2 : Nat → Int32 → Int32 → Hp → Prop} {X17 : Nat → Int32 → Int32 → Int64 → Int64 → Int32 → Hp → Prop} {v0 : Nat} {v1 : Int32} {v2 : Int32} {v3 : Int64} {v5 : Int64} {v7 : Int32} {σ : Hp} {K : Hp → Prop} (hX2 : ∀ v0 v1 v2 σ, X2 v0 v1 v2 σ → Wd l G (d + 1) "CoinsLaidModel" yX12_laySizes cX12_laySizes 9 none 2 [(0, aR (some v0)), (1, aI v1), (2, aI v2)] [] σ 0 0 (xM (QV K))) (hX17 : ∀ v0 v1 v2 v3 v5 v7 σ, X17 v0 v1 v2 v3 v5 v7 σ → Wd l G (d + 1) "CoinsLaidModel" yX12_laySizes cX12_laySizes 9 none 17 [(0, aR (some v0)), (1, aI v1), (2, aI v2), (3, aJ v3), (5, aJ v5), (7, aI v7)] [] σ 0 0 (xM (QV K))) (hf : F_X12_laySizes_17 l G d X2 X17 v0 v1 v2 v3 v5 v7 σ K) : Wd l G (d + 1) "CoinsLaidModel" yX12_laySizes cX12_laySizes 9 none 17 [(0, aR (some v0)), (1, aI v1), (2, aI v2), (3, aJ v3), (5, aJ v5), (7, aI v7)] [] σ 0 0 (xM (QV K)) := by
  unfold F_X12_laySizes_17 at hf
  refine r_iload (j := 5) rfl dX12_laySizes_17 ?_
  refine r_iload_n (j := 1) rfl rfl dX12_laySizes_19 ?_
  refine r_iadd (x := v7) (y := v1) dX12_laySizes_20 ?_
  refine r_iload_n (j := 2) rfl rfl dX12_laySizes_21 ?_
  refine r_icmpgt (x := (v7 + v1)) (y := v2) (tgt := 91) (by decide) dX12_laySizes_22 (fun hc => ?_) (fun hc => ?_)
  · replace hf := hf.1 hc
    exact r_sub [0, 1, 2, 3, 4] rfl (b_X12_laySizes_91 hX2 hf)
  · replace hf := hf.2 hc
    refine r_iconst (v := 2) (by decide) dX12_laySizes_25 ?_
    refine r_iload (j := 5) rfl dX12_laySizes_26 ?_
    refine r_imul (x := 2) (y := v7) dX12_laySizes_28 ?_
    refine r_iload_n (j := 2) rfl rfl dX12_laySizes_29 ?_
    refine r_iload_n (j := 1) rfl rfl dX12_laySizes_30 ?_
    refine r_isub (x := v2) (y := v1) dX12_laySizes_31 ?_
    refine r_icmpgt (x := (2 * v7)) (y := (v2 - v1)) (tgt := 91) (by decide) dX12_laySizes_32 (fun hc => ?_) (fun hc => ?_)
    · replace hf := hf.1 hc
      exact r_sub [0, 1, 2, 3, 4] rfl (b_X12_laySizes_91 hX2 hf)
    · replace hf := hf.2 hc
      refine r_aload_n (j := 0) rfl rfl dX12_laySizes_35 ?_
      obtain ⟨fs_x4, x4, ha_x4, hv_x4, hf⟩ := hf
      refine r_get (Cn := RX12) (Tt := TX12) (N := 42) (n := 39) rfl uw_X12 (Nat.le_of_ble_eq_true rfl) wd_6_225 ha_x4 hv_x4 dX12_laySizes_36 ?_
      refine r_iload (j := 5) rfl dX12_laySizes_39 ?_
      obtain ⟨N_x5, f_x5, ha_x5, hi_x5, hf⟩ := hf
      refine r_iald ha_x5 hi_x5 dX12_laySizes_41 ?_
      generalize f_x5 (v7 : Int32).toNatClampNeg = x5 at hf ⊢
      refine r_aload_n (j := 0) rfl rfl dX12_laySizes_42 ?_
      obtain ⟨fs_x6, x6, ha_x6, hv_x6, hf⟩ := hf
      refine r_get (Cn := RX12) (Tt := TX12) (N := 42) (n := 39) rfl uw_X12 (Nat.le_of_ble_eq_true rfl) wd_6_225 ha_x6 hv_x6 dX12_laySizes_43 ?_
      refine r_iload_n (j := 2) rfl rfl dX12_laySizes_46 ?_
      refine r_iload_n (j := 1) rfl rfl dX12_laySizes_47 ?_
      refine r_isub (x := v2) (y := v1) dX12_laySizes_48 ?_
      refine r_iload (j := 5) rfl dX12_laySizes_49 ?_
      refine r_isub (x := (v2 - v1)) (y := v7) dX12_laySizes_51 ?_
      obtain ⟨N_x7, f_x7, ha_x7, hi_x7, hf⟩ := hf
      refine r_iald ha_x7 hi_x7 dX12_laySizes_52 ?_
      generalize f_x7 (((v2 - v1) - v7) : Int32).toNatClampNeg = x7 at hf ⊢
      refine r_ixor (x := x5) (y := x7) dX12_laySizes_53 ?_
      refine r_istore (L' := [(8, aI (x5 ^^^ x7)), (0, aR (some v0)), (1, aI v1), (2, aI v2), (3, aJ v3), (5, aJ v5), (7, aI v7)]) rfl (Nat.le_of_ble_eq_true rfl) dX12_laySizes_54 ?_
      refine r_iload (j := 0) rfl dX12_laySizes_56 ?_
      refine r_bipush (v := 64) (by decide) dX12_laySizes_58 ?_
      refine r_icmpge (x := (x5 ^^^ x7)) (y := 64) (tgt := 73) (by decide) dX12_laySizes_60 (fun hc => ?_) (fun hc => ?_)
      · replace hf := hf.1 hc
        refine r_lload (j := 5) rfl dX12_laySizes_73 ?_
        refine r_lconst (v := 1) (by decide) dX12_laySizes_75 ?_
        refine r_iload (j := 0) rfl dX12_laySizes_76 ?_
        refine r_bipush (v := 64) (by decide) dX12_laySizes_78 ?_
        refine r_isub (x := (x5 ^^^ x7)) (y := 64) dX12_laySizes_80 ?_
        refine r_lshl (x := (1 : Int64)) (y := ((x5 ^^^ x7) - 64)) dX12_laySizes_81 ?_
        refine r_lor (x := v5) (y := ((1 : Int64) <<< ((((x5 ^^^ x7) - 64) : Int32).toInt64 &&& 63))) dX12_laySizes_82 ?_
        refine r_lstore (L' := [(5, aJ (v5 ||| ((1 : Int64) <<< ((((x5 ^^^ x7) - 64) : Int32).toInt64 &&& 63)))), (8, aI (x5 ^^^ x7)), (0, aR (some v0)), (1, aI v1), (2, aI v2), (3, aJ v3), (7, aI v7)]) rfl (Nat.le_of_ble_eq_true rfl) dX12_laySizes_83 ?_
        exact r_sub [2, 3, 4, 5, 0, 6] rfl (b_X12_laySizes_85 hX2 hX17 hf)
      · replace hf := hf.2 hc
        refine r_lload_n (j := 4) rfl rfl dX12_laySizes_63 ?_
        refine r_lconst (v := 1) (by decide) dX12_laySizes_64 ?_
        refine r_iload (j := 0) rfl dX12_laySizes_65 ?_
        refine r_lshl (x := (1 : Int64)) (y := (x5 ^^^ x7)) dX12_laySizes_67 ?_
        refine r_lor (x := v3) (y := ((1 : Int64) <<< (((x5 ^^^ x7) : Int32).toInt64 &&& 63))) dX12_laySizes_68 ?_
        refine r_lstore_n (L' := [(3, aJ (v3 ||| ((1 : Int64) <<< (((x5 ^^^ x7) : Int32).toInt64 &&& 63)))), (8, aI (x5 ^^^ x7)), (0, aR (some v0)), (1, aI v1), (2, aI v2), (5, aJ v5), (7, aI v7)]) rfl rfl (Nat.le_of_ble_eq_true rfl) dX12_laySizes_69 ?_
        refine r_goto (tgt := 85) (by decide) dX12_laySizes_70 ?_
        exact r_sub [2, 3, 4, 0, 5, 6] rfl (b_X12_laySizes_85 hX2 hX17 hf)
def Z_X12_laySizes_17 (l : Launch) (G : GG) (d : Nat) (X2 : Nat → Int32 → Int32 → Hp → Prop) (K : Hp → Prop) : Nat → Nat → Int32 → Int32 → Int64 → Int64 → Int32 → Hp → Prop
  | 0 => fun _ _ _ _ _ _ _ => False
  | n + 1 => fun v0 v1 v2 v3 v5 v7 σ => F_X12_laySizes_17 l G d X2 (Z_X12_laySizes_17 l G d X2 K n) v0 v1 v2 v3 v5 v7 σ K
theorem z_X12_laySizes_17 {l : Launch} {G : GG} {d : Nat} {X2 : Nat → Int32 → Int32 → Hp → Prop} {K : Hp → Prop} (hX2 : ∀ v0 v1 v2 σ, X2 v0 v1 v2 σ → Wd l G (d + 1) "CoinsLaidModel" yX12_laySizes cX12_laySizes 9 none 2 [(0, aR (some v0)), (1, aI v1), (2, aI v2)] [] σ 0 0 (xM (QV K))) : ∀ (n : Nat) v0 v1 v2 v3 v5 v7 σ, Z_X12_laySizes_17 l G d X2 K n v0 v1 v2 v3 v5 v7 σ → Wd l G (d + 1) "CoinsLaidModel" yX12_laySizes cX12_laySizes 9 none 17 [(0, aR (some v0)), (1, aI v1), (2, aI v2), (3, aJ v3), (5, aJ v5), (7, aI v7)] [] σ 0 0 (xM (QV K)) := by
  intro n
  induction n with
  | zero => intro v0 v1 v2 v3 v5 v7 σ hf; exact hf.elim
  | succ n ih => intro v0 v1 v2 v3 v5 v7 σ hf; exact b_X12_laySizes_17 hX2 ih hf
def F_X12_laySizes_2 (l : Launch) (G : GG) (d : Nat) (X2 : Nat → Int32 → Int32 → Hp → Prop) (v0 : Nat) (v1 : Int32) (v2 : Int32) (σ : Hp) (K : Hp → Prop) : Prop :=
  ((201 : Int32) ≤ (v2 : Int32) →
    K σ) ∧
  (¬ (201 : Int32) ≤ (v2 : Int32) →
    ∃ n, Z_X12_laySizes_17 l G d X2 K n v0 v1 v2 (0 : Int64) (0 : Int64) 0 σ)
set_option maxRecDepth 100000 in
set_option maxHeartbeats 4000000 in
theorem b_X12_laySizes_2 {l : Launch} {G : GG} {d : Nat} {X2 : Nat → Int32 → Int32 → Hp → Prop} {v0 : Nat} {v1 : Int32} {v2 : Int32} {σ : Hp} {K : Hp → Prop} (hX2 : ∀ v0 v1 v2 σ, X2 v0 v1 v2 σ → Wd l G (d + 1) "CoinsLaidModel" yX12_laySizes cX12_laySizes 9 none 2 [(0, aR (some v0)), (1, aI v1), (2, aI v2)] [] σ 0 0 (xM (QV K))) (hf : F_X12_laySizes_2 l G d X2 v0 v1 v2 σ K) : Wd l G (d + 1) "CoinsLaidModel" yX12_laySizes cX12_laySizes 9 none 2 [(0, aR (some v0)), (1, aI v1), (2, aI v2)] [] σ 0 0 (xM (QV K)) := by
  unfold F_X12_laySizes_2 at hf
  refine r_iload_n (j := 2) rfl rfl dX12_laySizes_2 ?_
  refine r_sipush (v := 201) (by decide) dX12_laySizes_3 ?_
  refine r_icmpge (x := v2) (y := 201) (tgt := 140) (by decide) dX12_laySizes_6 (fun hc => ?_) (fun hc => ?_)
  · replace hf := hf.1 hc
    exact r_return rfl dX12_laySizes_140 rfl ⟨rfl, hf⟩
  · replace hf := hf.2 hc
    refine r_lconst (v := 0) (by decide) dX12_laySizes_9 ?_
    refine r_lstore_n (L' := [(3, aJ (0 : Int64)), (0, aR (some v0)), (1, aI v1), (2, aI v2)]) rfl rfl (Nat.le_of_ble_eq_true rfl) dX12_laySizes_10 ?_
    refine r_lconst (v := 0) (by decide) dX12_laySizes_11 ?_
    refine r_lstore (L' := [(5, aJ (0 : Int64)), (3, aJ (0 : Int64)), (0, aR (some v0)), (1, aI v1), (2, aI v2)]) rfl (Nat.le_of_ble_eq_true rfl) dX12_laySizes_12 ?_
    refine r_iconst (v := 0) (by decide) dX12_laySizes_14 ?_
    refine r_istore (L' := [(7, aI 0), (5, aJ (0 : Int64)), (3, aJ (0 : Int64)), (0, aR (some v0)), (1, aI v1), (2, aI v2)]) rfl (Nat.le_of_ble_eq_true rfl) dX12_laySizes_15 ?_
    obtain ⟨n, hf⟩ := hf
    exact r_sub [3, 4, 5, 2, 1, 0] rfl (z_X12_laySizes_17 hX2 n _ _ _ _ _ _ _ hf)
def Z_X12_laySizes_2 (l : Launch) (G : GG) (d : Nat) (K : Hp → Prop) : Nat → Nat → Int32 → Int32 → Hp → Prop
  | 0 => fun _ _ _ _ => False
  | n + 1 => fun v0 v1 v2 σ => F_X12_laySizes_2 l G d (Z_X12_laySizes_2 l G d K n) v0 v1 v2 σ K
theorem z_X12_laySizes_2 {l : Launch} {G : GG} {d : Nat} {K : Hp → Prop} : ∀ (n : Nat) v0 v1 v2 σ, Z_X12_laySizes_2 l G d K n v0 v1 v2 σ → Wd l G (d + 1) "CoinsLaidModel" yX12_laySizes cX12_laySizes 9 none 2 [(0, aR (some v0)), (1, aI v1), (2, aI v2)] [] σ 0 0 (xM (QV K)) := by
  intro n
  induction n with
  | zero => intro v0 v1 v2 σ hf; exact hf.elim
  | succ n ih => intro v0 v1 v2 σ hf; exact b_X12_laySizes_2 ih hf
def F_X12_laySizes (l : Launch) (G : GG) (d : Nat) (v0 : Nat) (v1 : Int32) (σ : Hp) (K : Hp → Prop) : Prop :=
  ∃ n, Z_X12_laySizes_2 l G d K n v0 v1 0 σ
set_option maxRecDepth 100000 in
set_option maxHeartbeats 4000000 in
theorem b_X12_laySizes_0 {l : Launch} {G : GG} {d : Nat} {v0 : Nat} {v1 : Int32} {σ : Hp} {K : Hp → Prop} (hf : F_X12_laySizes l G d v0 v1 σ K) : Wd l G (d + 1) "CoinsLaidModel" yX12_laySizes cX12_laySizes 9 none 0 [(0, aR (some v0)), (1, aI v1)] [] σ 0 0 (xM (QV K)) := by
  unfold F_X12_laySizes at hf
  refine r_iconst (v := 0) (by decide) dX12_laySizes_0 ?_
  refine r_istore_n (L' := [(2, aI 0), (0, aR (some v0)), (1, aI v1)]) rfl rfl (Nat.le_of_ble_eq_true rfl) dX12_laySizes_1 ?_
  obtain ⟨n, hf⟩ := hf
  exact r_sub [1, 2, 0] rfl (z_X12_laySizes_2 n _ _ _ _ hf)
theorem m_X12_laySizes {l : Launch} {G : GG} {d : Nat} {v0 : Nat} {v1 : Int32} {σ : Hp} {K : Hp → Prop} (hr : rv σ v0 12) (hf : F_X12_laySizes l G d v0 v1 σ K) : C_X12_laySizes l G (d + 1) v0 v1 σ K := ⟨hr, Sp.of (by decide) (Nat.le_of_ble_eq_true rfl) (b_X12_laySizes_0 hf) rfl⟩
def F_X12_isRow (l : Launch) (G : GG) (d : Nat) (v0 : Int32) (σ : Hp) (K : Bool → Hp → Prop) : Prop :=
  C_X12_within l G d v0 0 200 σ fun r2 σ1 =>
  K r2 σ1
set_option maxRecDepth 100000 in
set_option maxHeartbeats 4000000 in
theorem b_X12_isRow_0 {l : Launch} {G : GG} {d : Nat} {v0 : Int32} {σ : Hp} {K : Bool → Hp → Prop} (hf : F_X12_isRow l G d v0 σ K) : Wd l G (d + 1) "CoinsLaidModel" yX12_isRow cX12_isRow 1 (some FieldType.boolean) 0 [(0, aI v0)] [] σ 0 0 (xM (QZ K)) := by
  unfold F_X12_isRow at hf
  refine r_iload_n (j := 0) rfl rfl dX12_isRow_0 ?_
  refine r_iconst (v := 0) (by decide) dX12_isRow_1 ?_
  refine r_sipush (v := 200) (by decide) dX12_isRow_2 ?_
  try unfold C_X12_within at hf
  refine r_invSZ (As := [aI v0, aI 0, aI 200]) (dz := d) (mz := 0) (sz := 0) rfl wd_7_89 wd_7_90 cf_X12_within (Nat.le_refl _) (Nat.zero_le _) (Nat.zero_le _) (cat_ok (Nat.le_of_ble_eq_true rfl)) dX12_isRow_5 hf (fun r2 σ1 hk => ?_)
  replace hf := hk
  clear hk
  exact r_zreturn (b := r2) rfl dX12_isRow_8 rfl ⟨_, rfl, hf⟩
theorem m_X12_isRow {l : Launch} {G : GG} {d : Nat} {v0 : Int32} {σ : Hp} {K : Bool → Hp → Prop} (hf : F_X12_isRow l G d v0 σ K) : C_X12_isRow l G (d + 1) v0 σ K := Sp.of (by decide) (Nat.le_of_ble_eq_true rfl) (b_X12_isRow_0 hf) rfl
def F_X12_size_21 (l : Launch) (G : GG) (d : Nat) (v0 : Nat) (σ : Hp) (K : Int32 → Hp → Prop) : Prop :=
  C_X12_no l G d v0 2 σ fun r2 σ1 =>
  K r2 σ1
set_option maxRecDepth 100000 in
set_option maxHeartbeats 4000000 in
theorem b_X12_size_21 {l : Launch} {G : GG} {d : Nat} {v0 : Nat} {σ : Hp} {K : Int32 → Hp → Prop} (hf : F_X12_size_21 l G d v0 σ K) : Wd l G (d + 1) "CoinsLaidModel" yX12_size cX12_size 3 (some FieldType.int) 21 [(0, aR (some v0))] [] σ 0 0 (xM (QI K)) := by
  unfold F_X12_size_21 at hf
  refine r_aload_n (j := 0) rfl rfl dX12_size_21 ?_
  refine r_iconst (v := 2) (by decide) dX12_size_22 ?_
  try unfold C_X12_no at hf
  obtain ⟨⟨fs_r2, ha_r2⟩, hf⟩ := hf
  refine r_invVI (t := 12) (As := [aI 2]) (dz := d) (mz := 0) (sz := 0) rfl wd_7_92 wd_7_94 wd_p_50 cf_X12_no (Nat.le_refl _) (Nat.zero_le _) (Nat.zero_le _) (cat_ok (Nat.le_of_ble_eq_true rfl)) rfl rfl ha_r2 dX12_size_23 hf (fun r2 σ1 hk => ?_)
  replace hf := hk
  clear hk
  exact r_ireturn rfl dX12_size_26 rfl ⟨_, rfl, hf⟩
def F_X12_size (l : Launch) (G : GG) (d : Nat) (v0 : Nat) (v1 : Int32) (v2 : Int32) (σ : Hp) (K : Int32 → Hp → Prop) : Prop :=
  C_X12_clear l G d v0 σ fun σ3 =>
  C_X12_isRow l G d v1 σ3 fun r6 σ5 =>
  (r6 = false →
    F_X12_size_21 l G d v0 σ5 K) ∧
  (r6 = true →
    C_X12_within l G d v2 1 9 σ5 fun r8 σ7 =>
    (r8 = true →
      C_X12_laySizes l G d v0 v2 σ7 fun σ9 =>
      fN σ9 v0 12 39 fun x11 =>
      gI σ9 x11 v1 fun x12 =>
      K x12 σ9) ∧
    (r8 = false →
      F_X12_size_21 l G d v0 σ7 K))
set_option maxRecDepth 100000 in
set_option maxHeartbeats 4000000 in
theorem b_X12_size_0 {l : Launch} {G : GG} {d : Nat} {v0 : Nat} {v1 : Int32} {v2 : Int32} {σ : Hp} {K : Int32 → Hp → Prop} (hf : F_X12_size l G d v0 v1 v2 σ K) : Wd l G (d + 1) "CoinsLaidModel" yX12_size cX12_size 3 (some FieldType.int) 0 [(0, aR (some v0)), (1, aI v1), (2, aI v2)] [] σ 0 0 (xM (QI K)) := by
  unfold F_X12_size at hf
  refine r_aload_n (j := 0) rfl rfl dX12_size_0 ?_
  try unfold C_X12_clear at hf
  obtain ⟨⟨fs_r4, ha_r4⟩, hf⟩ := hf
  refine r_invVU (t := 12) (As := []) (dz := d) (mz := 0) (sz := 0) rfl wd_7_85 wd_7_87 wd_p_49 cf_X12_clear (Nat.le_refl _) (Nat.zero_le _) (Nat.zero_le _) (cat_ok (Nat.le_of_ble_eq_true rfl)) rfl rfl ha_r4 dX12_size_1 hf (fun σ3 hk => ?_)
  replace hf := hk
  clear hk
  refine r_iload_n (j := 1) rfl rfl dX12_size_4 ?_
  try unfold C_X12_isRow at hf
  refine r_invSZ (As := [aI v1]) (dz := d) (mz := 0) (sz := 0) rfl wd_8_198 wd_8_199 cf_X12_isRow (Nat.le_refl _) (Nat.zero_le _) (Nat.zero_le _) (cat_ok (Nat.le_of_ble_eq_true rfl)) dX12_size_5 hf (fun r6 σ5 hk => ?_)
  replace hf := hk
  clear hk
  refine r_ifeqZ (b := r6) (tgt := 21) (by decide) dX12_size_8 (fun hc => ?_) (fun hc => ?_)
  · replace hf := hf.1 hc
    exact r_sub [0] rfl (b_X12_size_21 hf)
  · replace hf := hf.2 hc
    refine r_iload_n (j := 2) rfl rfl dX12_size_11 ?_
    refine r_iconst (v := 1) (by decide) dX12_size_12 ?_
    refine r_bipush (v := 9) (by decide) dX12_size_13 ?_
    try unfold C_X12_within at hf
    refine r_invSZ (As := [aI v2, aI 1, aI 9]) (dz := d) (mz := 0) (sz := 0) rfl wd_7_89 wd_7_90 cf_X12_within (Nat.le_refl _) (Nat.zero_le _) (Nat.zero_le _) (cat_ok (Nat.le_of_ble_eq_true rfl)) dX12_size_15 hf (fun r8 σ7 hk => ?_)
    replace hf := hk
    clear hk
    refine r_ifneZ (b := r8) (tgt := 27) (by decide) dX12_size_18 (fun hc => ?_) (fun hc => ?_)
    · replace hf := hf.1 hc
      refine r_aload_n (j := 0) rfl rfl dX12_size_27 ?_
      refine r_iload_n (j := 2) rfl rfl dX12_size_28 ?_
      try unfold C_X12_laySizes at hf
      obtain ⟨⟨fs_r10, ha_r10⟩, hf⟩ := hf
      refine r_invVU (t := 12) (As := [aI v2]) (dz := d) (mz := 0) (sz := 0) rfl wd_8_201 wd_8_203 wd_p_97 cf_X12_laySizes (Nat.le_refl _) (Nat.zero_le _) (Nat.zero_le _) (cat_ok (Nat.le_of_ble_eq_true rfl)) rfl rfl ha_r10 dX12_size_29 hf (fun σ9 hk => ?_)
      replace hf := hk
      clear hk
      refine r_aload_n (j := 0) rfl rfl dX12_size_32 ?_
      obtain ⟨fs_x11, x11, ha_x11, hv_x11, hf⟩ := hf
      refine r_get (Cn := RX12) (Tt := TX12) (N := 42) (n := 39) rfl uw_X12 (Nat.le_of_ble_eq_true rfl) wd_6_225 ha_x11 hv_x11 dX12_size_33 ?_
      refine r_iload_n (j := 1) rfl rfl dX12_size_36 ?_
      obtain ⟨N_x12, f_x12, ha_x12, hi_x12, hf⟩ := hf
      refine r_iald ha_x12 hi_x12 dX12_size_37 ?_
      generalize f_x12 (v1 : Int32).toNatClampNeg = x12 at hf ⊢
      exact r_ireturn rfl dX12_size_38 rfl ⟨_, rfl, hf⟩
    · replace hf := hf.2 hc
      exact r_sub [0] rfl (b_X12_size_21 hf)
theorem m_X12_size {l : Launch} {G : GG} {d : Nat} {v0 : Nat} {v1 : Int32} {v2 : Int32} {σ : Hp} {K : Int32 → Hp → Prop} (hr : rv σ v0 12) (hf : F_X12_size l G d v0 v1 v2 σ K) : C_X12_size l G (d + 1) v0 v1 v2 σ K := ⟨hr, Sp.of (by decide) (Nat.le_of_ble_eq_true rfl) (b_X12_size_0 hf) rfl⟩
def F_X12_rows_36 (l : Launch) (G : GG) (d : Nat) (v0 : Nat) (σ : Hp) (K : Int32 → Hp → Prop) : Prop :=
  C_X12_no l G d v0 2 σ fun r2 σ1 =>
  K r2 σ1
set_option maxRecDepth 100000 in
set_option maxHeartbeats 4000000 in
theorem b_X12_rows_36 {l : Launch} {G : GG} {d : Nat} {v0 : Nat} {σ : Hp} {K : Int32 → Hp → Prop} (hf : F_X12_rows_36 l G d v0 σ K) : Wd l G (d + 1) "CoinsLaidModel" yX12_rows cX12_rows 5 (some FieldType.int) 36 [(0, aR (some v0))] [] σ 0 0 (xM (QI K)) := by
  unfold F_X12_rows_36 at hf
  refine r_aload_n (j := 0) rfl rfl dX12_rows_36 ?_
  refine r_iconst (v := 2) (by decide) dX12_rows_37 ?_
  try unfold C_X12_no at hf
  obtain ⟨⟨fs_r2, ha_r2⟩, hf⟩ := hf
  refine r_invVI (t := 12) (As := [aI 2]) (dz := d) (mz := 0) (sz := 0) rfl wd_7_92 wd_7_94 wd_p_50 cf_X12_no (Nat.le_refl _) (Nat.zero_le _) (Nat.zero_le _) (cat_ok (Nat.le_of_ble_eq_true rfl)) rfl rfl ha_r2 dX12_rows_38 hf (fun r2 σ1 hk => ?_)
  replace hf := hk
  clear hk
  exact r_ireturn rfl dX12_rows_41 rfl ⟨_, rfl, hf⟩
def F_X12_rows_76 (l : Launch) (G : GG) (d : Nat) (s0 : Bool) (σ : Hp) (K : Int32 → Hp → Prop) : Prop :=
  K (bi s0) σ
set_option maxRecDepth 100000 in
set_option maxHeartbeats 4000000 in
theorem b_X12_rows_76 {l : Launch} {G : GG} {d : Nat} {s0 : Bool} {σ : Hp} {K : Int32 → Hp → Prop} (hf : F_X12_rows_76 l G d s0 σ K) : Wd l G (d + 1) "CoinsLaidModel" yX12_rows cX12_rows 5 (some FieldType.int) 76 [] [aI (bi s0)] σ 0 0 (xM (QI K)) := by
  unfold F_X12_rows_76 at hf
  exact r_ireturn rfl dX12_rows_76 rfl ⟨_, rfl, hf⟩
def F_X12_rows (l : Launch) (G : GG) (d : Nat) (v0 : Nat) (v1 : Int32) (v2 : Int32) (v3 : Int32) (v4 : Int32) (σ : Hp) (K : Int32 → Hp → Prop) : Prop :=
  C_X12_clear l G d v0 σ fun σ3 =>
  C_X12_isRow l G d v1 σ3 fun r6 σ5 =>
  (r6 = false →
    F_X12_rows_36 l G d v0 σ5 K) ∧
  (r6 = true →
    C_X12_isRow l G d v2 σ5 fun r8 σ7 =>
    (r8 = false →
      F_X12_rows_36 l G d v0 σ7 K) ∧
    (r8 = true →
      C_X12_isRow l G d v3 σ7 fun r10 σ9 =>
      (r10 = false →
        F_X12_rows_36 l G d v0 σ9 K) ∧
      (r10 = true →
        C_X12_within l G d v4 1 9 σ9 fun r12 σ11 =>
        (r12 = true →
          C_X12_laySizes l G d v0 v4 σ11 fun σ13 =>
          fN σ13 v0 12 39 fun x15 =>
          gI σ13 x15 v1 fun x16 =>
          fN σ13 v0 12 39 fun x17 =>
          gI σ13 x17 v2 fun x18 =>
          fN σ13 v0 12 39 fun x19 =>
          gI σ13 x19 v3 fun x20 =>
          ((((x16 ^^^ x18) ^^^ x20) : Int32) = 0 →
            F_X12_rows_76 l G d false σ13 K) ∧
          (¬ (((x16 ^^^ x18) ^^^ x20) : Int32) = 0 →
            F_X12_rows_76 l G d true σ13 K)) ∧
        (r12 = false →
          F_X12_rows_36 l G d v0 σ11 K))))
set_option maxRecDepth 100000 in
set_option maxHeartbeats 4000000 in
theorem b_X12_rows_0 {l : Launch} {G : GG} {d : Nat} {v0 : Nat} {v1 : Int32} {v2 : Int32} {v3 : Int32} {v4 : Int32} {σ : Hp} {K : Int32 → Hp → Prop} (hf : F_X12_rows l G d v0 v1 v2 v3 v4 σ K) : Wd l G (d + 1) "CoinsLaidModel" yX12_rows cX12_rows 5 (some FieldType.int) 0 [(0, aR (some v0)), (1, aI v1), (2, aI v2), (3, aI v3), (4, aI v4)] [] σ 0 0 (xM (QI K)) := by
  unfold F_X12_rows at hf
  refine r_aload_n (j := 0) rfl rfl dX12_rows_0 ?_
  try unfold C_X12_clear at hf
  obtain ⟨⟨fs_r4, ha_r4⟩, hf⟩ := hf
  refine r_invVU (t := 12) (As := []) (dz := d) (mz := 0) (sz := 0) rfl wd_7_85 wd_7_87 wd_p_49 cf_X12_clear (Nat.le_refl _) (Nat.zero_le _) (Nat.zero_le _) (cat_ok (Nat.le_of_ble_eq_true rfl)) rfl rfl ha_r4 dX12_rows_1 hf (fun σ3 hk => ?_)
  replace hf := hk
  clear hk
  refine r_iload_n (j := 1) rfl rfl dX12_rows_4 ?_
  try unfold C_X12_isRow at hf
  refine r_invSZ (As := [aI v1]) (dz := d) (mz := 0) (sz := 0) rfl wd_8_198 wd_8_199 cf_X12_isRow (Nat.le_refl _) (Nat.zero_le _) (Nat.zero_le _) (cat_ok (Nat.le_of_ble_eq_true rfl)) dX12_rows_5 hf (fun r6 σ5 hk => ?_)
  replace hf := hk
  clear hk
  refine r_ifeqZ (b := r6) (tgt := 36) (by decide) dX12_rows_8 (fun hc => ?_) (fun hc => ?_)
  · replace hf := hf.1 hc
    exact r_sub [0] rfl (b_X12_rows_36 hf)
  · replace hf := hf.2 hc
    refine r_iload_n (j := 2) rfl rfl dX12_rows_11 ?_
    try unfold C_X12_isRow at hf
    refine r_invSZ (As := [aI v2]) (dz := d) (mz := 0) (sz := 0) rfl wd_8_198 wd_8_199 cf_X12_isRow (Nat.le_refl _) (Nat.zero_le _) (Nat.zero_le _) (cat_ok (Nat.le_of_ble_eq_true rfl)) dX12_rows_12 hf (fun r8 σ7 hk => ?_)
    replace hf := hk
    clear hk
    refine r_ifeqZ (b := r8) (tgt := 36) (by decide) dX12_rows_15 (fun hc => ?_) (fun hc => ?_)
    · replace hf := hf.1 hc
      exact r_sub [0] rfl (b_X12_rows_36 hf)
    · replace hf := hf.2 hc
      refine r_iload_n (j := 3) rfl rfl dX12_rows_18 ?_
      try unfold C_X12_isRow at hf
      refine r_invSZ (As := [aI v3]) (dz := d) (mz := 0) (sz := 0) rfl wd_8_198 wd_8_199 cf_X12_isRow (Nat.le_refl _) (Nat.zero_le _) (Nat.zero_le _) (cat_ok (Nat.le_of_ble_eq_true rfl)) dX12_rows_19 hf (fun r10 σ9 hk => ?_)
      replace hf := hk
      clear hk
      refine r_ifeqZ (b := r10) (tgt := 36) (by decide) dX12_rows_22 (fun hc => ?_) (fun hc => ?_)
      · replace hf := hf.1 hc
        exact r_sub [0] rfl (b_X12_rows_36 hf)
      · replace hf := hf.2 hc
        refine r_iload (j := 4) rfl dX12_rows_25 ?_
        refine r_iconst (v := 1) (by decide) dX12_rows_27 ?_
        refine r_bipush (v := 9) (by decide) dX12_rows_28 ?_
        try unfold C_X12_within at hf
        refine r_invSZ (As := [aI v4, aI 1, aI 9]) (dz := d) (mz := 0) (sz := 0) rfl wd_7_89 wd_7_90 cf_X12_within (Nat.le_refl _) (Nat.zero_le _) (Nat.zero_le _) (cat_ok (Nat.le_of_ble_eq_true rfl)) dX12_rows_30 hf (fun r12 σ11 hk => ?_)
        replace hf := hk
        clear hk
        refine r_ifneZ (b := r12) (tgt := 42) (by decide) dX12_rows_33 (fun hc => ?_) (fun hc => ?_)
        · replace hf := hf.1 hc
          refine r_aload_n (j := 0) rfl rfl dX12_rows_42 ?_
          refine r_iload (j := 4) rfl dX12_rows_43 ?_
          try unfold C_X12_laySizes at hf
          obtain ⟨⟨fs_r14, ha_r14⟩, hf⟩ := hf
          refine r_invVU (t := 12) (As := [aI v4]) (dz := d) (mz := 0) (sz := 0) rfl wd_8_201 wd_8_203 wd_p_97 cf_X12_laySizes (Nat.le_refl _) (Nat.zero_le _) (Nat.zero_le _) (cat_ok (Nat.le_of_ble_eq_true rfl)) rfl rfl ha_r14 dX12_rows_45 hf (fun σ13 hk => ?_)
          replace hf := hk
          clear hk
          refine r_aload_n (j := 0) rfl rfl dX12_rows_48 ?_
          obtain ⟨fs_x15, x15, ha_x15, hv_x15, hf⟩ := hf
          refine r_get (Cn := RX12) (Tt := TX12) (N := 42) (n := 39) rfl uw_X12 (Nat.le_of_ble_eq_true rfl) wd_6_225 ha_x15 hv_x15 dX12_rows_49 ?_
          refine r_iload_n (j := 1) rfl rfl dX12_rows_52 ?_
          obtain ⟨N_x16, f_x16, ha_x16, hi_x16, hf⟩ := hf
          refine r_iald ha_x16 hi_x16 dX12_rows_53 ?_
          generalize f_x16 (v1 : Int32).toNatClampNeg = x16 at hf ⊢
          refine r_aload_n (j := 0) rfl rfl dX12_rows_54 ?_
          obtain ⟨fs_x17, x17, ha_x17, hv_x17, hf⟩ := hf
          refine r_get (Cn := RX12) (Tt := TX12) (N := 42) (n := 39) rfl uw_X12 (Nat.le_of_ble_eq_true rfl) wd_6_225 ha_x17 hv_x17 dX12_rows_55 ?_
          refine r_iload_n (j := 2) rfl rfl dX12_rows_58 ?_
          obtain ⟨N_x18, f_x18, ha_x18, hi_x18, hf⟩ := hf
          refine r_iald ha_x18 hi_x18 dX12_rows_59 ?_
          generalize f_x18 (v2 : Int32).toNatClampNeg = x18 at hf ⊢
          refine r_ixor (x := x16) (y := x18) dX12_rows_60 ?_
          refine r_aload_n (j := 0) rfl rfl dX12_rows_61 ?_
          obtain ⟨fs_x19, x19, ha_x19, hv_x19, hf⟩ := hf
          refine r_get (Cn := RX12) (Tt := TX12) (N := 42) (n := 39) rfl uw_X12 (Nat.le_of_ble_eq_true rfl) wd_6_225 ha_x19 hv_x19 dX12_rows_62 ?_
          refine r_iload_n (j := 3) rfl rfl dX12_rows_65 ?_
          obtain ⟨N_x20, f_x20, ha_x20, hi_x20, hf⟩ := hf
          refine r_iald ha_x20 hi_x20 dX12_rows_66 ?_
          generalize f_x20 (v3 : Int32).toNatClampNeg = x20 at hf ⊢
          refine r_ixor (x := (x16 ^^^ x18)) (y := x20) dX12_rows_67 ?_
          refine r_ifeq (x := ((x16 ^^^ x18) ^^^ x20)) (tgt := 75) (by decide) dX12_rows_68 (fun hc => ?_) (fun hc => ?_)
          · replace hf := hf.1 hc
            refine r_iconst (v := 0) (by decide) dX12_rows_75 ?_
            exact r_sub [] rfl (b_X12_rows_76 hf)
          · replace hf := hf.2 hc
            refine r_iconst (v := 1) (by decide) dX12_rows_71 ?_
            refine r_goto (tgt := 76) (by decide) dX12_rows_72 ?_
            exact r_sub [] rfl (b_X12_rows_76 hf)
        · replace hf := hf.2 hc
          exact r_sub [0] rfl (b_X12_rows_36 hf)
theorem m_X12_rows {l : Launch} {G : GG} {d : Nat} {v0 : Nat} {v1 : Int32} {v2 : Int32} {v3 : Int32} {v4 : Int32} {σ : Hp} {K : Int32 → Hp → Prop} (hr : rv σ v0 12) (hf : F_X12_rows l G d v0 v1 v2 v3 v4 σ K) : C_X12_rows l G (d + 1) v0 v1 v2 v3 v4 σ K := ⟨hr, Sp.of (by decide) (Nat.le_of_ble_eq_true rfl) (b_X12_rows_0 hf) rfl⟩
def F_X12_rowLay_31 (l : Launch) (G : GG) (d : Nat) (v0 : Nat) (σ : Hp) (K : Int32 → Hp → Prop) : Prop :=
  C_X12_no l G d v0 2 σ fun r2 σ1 =>
  K r2 σ1
set_option maxRecDepth 100000 in
set_option maxHeartbeats 4000000 in
theorem b_X12_rowLay_31 {l : Launch} {G : GG} {d : Nat} {v0 : Nat} {σ : Hp} {K : Int32 → Hp → Prop} (hf : F_X12_rowLay_31 l G d v0 σ K) : Wd l G (d + 1) "CoinsLaidModel" yX12_rowLay cX12_rowLay 5 (some FieldType.int) 31 [(0, aR (some v0))] [] σ 0 0 (xM (QI K)) := by
  unfold F_X12_rowLay_31 at hf
  refine r_aload_n (j := 0) rfl rfl dX12_rowLay_31 ?_
  refine r_iconst (v := 2) (by decide) dX12_rowLay_32 ?_
  try unfold C_X12_no at hf
  obtain ⟨⟨fs_r2, ha_r2⟩, hf⟩ := hf
  refine r_invVI (t := 12) (As := [aI 2]) (dz := d) (mz := 0) (sz := 0) rfl wd_7_92 wd_7_94 wd_p_50 cf_X12_no (Nat.le_refl _) (Nat.zero_le _) (Nat.zero_le _) (cat_ok (Nat.le_of_ble_eq_true rfl)) rfl rfl ha_r2 dX12_rowLay_33 hf (fun r2 σ1 hk => ?_)
  replace hf := hk
  clear hk
  exact r_ireturn rfl dX12_rowLay_36 rfl ⟨_, rfl, hf⟩
def F_X12_rowLay_45 (l : Launch) (G : GG) (d : Nat) (X45 : Nat → Int32 → Int32 → Int32 → Int32 → Hp → Prop) (v0 : Nat) (v1 : Int32) (v2 : Int32) (v3 : Int32) (v4 : Int32) (σ : Hp) (K : Int32 → Hp → Prop) : Prop :=
  ((v1 : Int32) < ((v4 + v2) : Int32) →
    K (-2) σ) ∧
  (¬ (v1 : Int32) < ((v4 + v2) : Int32) →
    fN σ v0 12 39 fun x3 =>
    gI σ x3 v4 fun x4 =>
    fN σ v0 12 39 fun x5 =>
    gI σ x5 ((v1 - v2) - v4) fun x6 =>
    (¬ ((x4 ^^^ x6) : Int32) = (v3 : Int32) →
      X45 v0 v1 v2 v3 (v4 + 1) σ) ∧
    (((x4 ^^^ x6) : Int32) = (v3 : Int32) →
      K v4 σ))
set_option maxRecDepth 100000 in
set_option maxHeartbeats 4000000 in
theorem b_X12_rowLay_45 {l : Launch} {G : GG} {d : Nat} {X45 : Nat → Int32 → Int32 → Int32 → Int32 → Hp → Prop} {v0 : Nat} {v1 : Int32} {v2 : Int32} {v3 : Int32} {v4 : Int32} {σ : Hp} {K : Int32 → Hp → Prop} (hX45 : ∀ v0 v1 v2 v3 v4 σ, X45 v0 v1 v2 v3 v4 σ → Wd l G (d + 1) "CoinsLaidModel" yX12_rowLay cX12_rowLay 5 (some FieldType.int) 45 [(0, aR (some v0)), (1, aI v1), (2, aI v2), (3, aI v3), (4, aI v4)] [] σ 0 0 (xM (QI K))) (hf : F_X12_rowLay_45 l G d X45 v0 v1 v2 v3 v4 σ K) : Wd l G (d + 1) "CoinsLaidModel" yX12_rowLay cX12_rowLay 5 (some FieldType.int) 45 [(0, aR (some v0)), (1, aI v1), (2, aI v2), (3, aI v3), (4, aI v4)] [] σ 0 0 (xM (QI K)) := by
  unfold F_X12_rowLay_45 at hf
  refine r_iload (j := 4) rfl dX12_rowLay_45 ?_
  refine r_iload_n (j := 2) rfl rfl dX12_rowLay_47 ?_
  refine r_iadd (x := v4) (y := v2) dX12_rowLay_48 ?_
  refine r_iload_n (j := 1) rfl rfl dX12_rowLay_49 ?_
  refine r_icmpgt (x := (v4 + v2)) (y := v1) (tgt := 85) (by decide) dX12_rowLay_50 (fun hc => ?_) (fun hc => ?_)
  · replace hf := hf.1 hc
    refine r_bipush (v := (-2)) (by decide) dX12_rowLay_85 ?_
    exact r_ireturn rfl dX12_rowLay_87 rfl ⟨_, rfl, hf⟩
  · replace hf := hf.2 hc
    refine r_aload_n (j := 0) rfl rfl dX12_rowLay_53 ?_
    obtain ⟨fs_x3, x3, ha_x3, hv_x3, hf⟩ := hf
    refine r_get (Cn := RX12) (Tt := TX12) (N := 42) (n := 39) rfl uw_X12 (Nat.le_of_ble_eq_true rfl) wd_6_225 ha_x3 hv_x3 dX12_rowLay_54 ?_
    refine r_iload (j := 4) rfl dX12_rowLay_57 ?_
    obtain ⟨N_x4, f_x4, ha_x4, hi_x4, hf⟩ := hf
    refine r_iald ha_x4 hi_x4 dX12_rowLay_59 ?_
    generalize f_x4 (v4 : Int32).toNatClampNeg = x4 at hf ⊢
    refine r_aload_n (j := 0) rfl rfl dX12_rowLay_60 ?_
    obtain ⟨fs_x5, x5, ha_x5, hv_x5, hf⟩ := hf
    refine r_get (Cn := RX12) (Tt := TX12) (N := 42) (n := 39) rfl uw_X12 (Nat.le_of_ble_eq_true rfl) wd_6_225 ha_x5 hv_x5 dX12_rowLay_61 ?_
    refine r_iload_n (j := 1) rfl rfl dX12_rowLay_64 ?_
    refine r_iload_n (j := 2) rfl rfl dX12_rowLay_65 ?_
    refine r_isub (x := v1) (y := v2) dX12_rowLay_66 ?_
    refine r_iload (j := 4) rfl dX12_rowLay_67 ?_
    refine r_isub (x := (v1 - v2)) (y := v4) dX12_rowLay_69 ?_
    obtain ⟨N_x6, f_x6, ha_x6, hi_x6, hf⟩ := hf
    refine r_iald ha_x6 hi_x6 dX12_rowLay_70 ?_
    generalize f_x6 (((v1 - v2) - v4) : Int32).toNatClampNeg = x6 at hf ⊢
    refine r_ixor (x := x4) (y := x6) dX12_rowLay_71 ?_
    refine r_iload_n (j := 3) rfl rfl dX12_rowLay_72 ?_
    refine r_icmpne (x := (x4 ^^^ x6)) (y := v3) (tgt := 79) (by decide) dX12_rowLay_73 (fun hc => ?_) (fun hc => ?_)
    · replace hf := hf.1 hc
      refine r_iinc (j := 4) (w := (v4 + 1)) (L' := [(4, aI (v4 + 1)), (0, aR (some v0)), (1, aI v1), (2, aI v2), (3, aI v3)]) rfl (by rfl) rfl (Nat.le_of_ble_eq_true rfl) dX12_rowLay_79 ?_
      refine r_goto (tgt := 45) (by decide) dX12_rowLay_82 ?_
      exact r_sub [1, 2, 3, 4, 0] rfl (hX45 _ _ _ _ _ _ hf)
    · replace hf := hf.2 hc
      refine r_iload (j := 4) rfl dX12_rowLay_76 ?_
      exact r_ireturn rfl dX12_rowLay_78 rfl ⟨_, rfl, hf⟩
def Z_X12_rowLay_45 (l : Launch) (G : GG) (d : Nat) (K : Int32 → Hp → Prop) : Nat → Nat → Int32 → Int32 → Int32 → Int32 → Hp → Prop
  | 0 => fun _ _ _ _ _ _ => False
  | n + 1 => fun v0 v1 v2 v3 v4 σ => F_X12_rowLay_45 l G d (Z_X12_rowLay_45 l G d K n) v0 v1 v2 v3 v4 σ K
theorem z_X12_rowLay_45 {l : Launch} {G : GG} {d : Nat} {K : Int32 → Hp → Prop} : ∀ (n : Nat) v0 v1 v2 v3 v4 σ, Z_X12_rowLay_45 l G d K n v0 v1 v2 v3 v4 σ → Wd l G (d + 1) "CoinsLaidModel" yX12_rowLay cX12_rowLay 5 (some FieldType.int) 45 [(0, aR (some v0)), (1, aI v1), (2, aI v2), (3, aI v3), (4, aI v4)] [] σ 0 0 (xM (QI K)) := by
  intro n
  induction n with
  | zero => intro v0 v1 v2 v3 v4 σ hf; exact hf.elim
  | succ n ih => intro v0 v1 v2 v3 v4 σ hf; exact b_X12_rowLay_45 ih hf
def F_X12_rowLay (l : Launch) (G : GG) (d : Nat) (v0 : Nat) (v1 : Int32) (v2 : Int32) (v3 : Int32) (σ : Hp) (K : Int32 → Hp → Prop) : Prop :=
  C_X12_clear l G d v0 σ fun σ7 =>
  C_X12_isRow l G d v1 σ7 fun r10 σ9 =>
  (r10 = false →
    F_X12_rowLay_31 l G d v0 σ9 K) ∧
  (r10 = true →
    C_X12_within l G d v2 1 9 σ9 fun r12 σ11 =>
    (r12 = false →
      F_X12_rowLay_31 l G d v0 σ11 K) ∧
    (r12 = true →
      C_X12_within l G d v3 0 99 σ11 fun r14 σ13 =>
      (r14 = true →
        C_X12_laySizes l G d v0 v2 σ13 fun σ15 =>
        ∃ n, Z_X12_rowLay_45 l G d K n v0 v1 v2 v3 0 σ15) ∧
      (r14 = false →
        F_X12_rowLay_31 l G d v0 σ13 K)))
set_option maxRecDepth 100000 in
set_option maxHeartbeats 4000000 in
theorem b_X12_rowLay_0 {l : Launch} {G : GG} {d : Nat} {v0 : Nat} {v1 : Int32} {v2 : Int32} {v3 : Int32} {σ : Hp} {K : Int32 → Hp → Prop} (hf : F_X12_rowLay l G d v0 v1 v2 v3 σ K) : Wd l G (d + 1) "CoinsLaidModel" yX12_rowLay cX12_rowLay 5 (some FieldType.int) 0 [(0, aR (some v0)), (1, aI v1), (2, aI v2), (3, aI v3)] [] σ 0 0 (xM (QI K)) := by
  unfold F_X12_rowLay at hf
  refine r_aload_n (j := 0) rfl rfl dX12_rowLay_0 ?_
  try unfold C_X12_clear at hf
  obtain ⟨⟨fs_r8, ha_r8⟩, hf⟩ := hf
  refine r_invVU (t := 12) (As := []) (dz := d) (mz := 0) (sz := 0) rfl wd_7_85 wd_7_87 wd_p_49 cf_X12_clear (Nat.le_refl _) (Nat.zero_le _) (Nat.zero_le _) (cat_ok (Nat.le_of_ble_eq_true rfl)) rfl rfl ha_r8 dX12_rowLay_1 hf (fun σ7 hk => ?_)
  replace hf := hk
  clear hk
  refine r_iload_n (j := 1) rfl rfl dX12_rowLay_4 ?_
  try unfold C_X12_isRow at hf
  refine r_invSZ (As := [aI v1]) (dz := d) (mz := 0) (sz := 0) rfl wd_8_198 wd_8_199 cf_X12_isRow (Nat.le_refl _) (Nat.zero_le _) (Nat.zero_le _) (cat_ok (Nat.le_of_ble_eq_true rfl)) dX12_rowLay_5 hf (fun r10 σ9 hk => ?_)
  replace hf := hk
  clear hk
  refine r_ifeqZ (b := r10) (tgt := 31) (by decide) dX12_rowLay_8 (fun hc => ?_) (fun hc => ?_)
  · replace hf := hf.1 hc
    exact r_sub [0] rfl (b_X12_rowLay_31 hf)
  · replace hf := hf.2 hc
    refine r_iload_n (j := 2) rfl rfl dX12_rowLay_11 ?_
    refine r_iconst (v := 1) (by decide) dX12_rowLay_12 ?_
    refine r_bipush (v := 9) (by decide) dX12_rowLay_13 ?_
    try unfold C_X12_within at hf
    refine r_invSZ (As := [aI v2, aI 1, aI 9]) (dz := d) (mz := 0) (sz := 0) rfl wd_7_89 wd_7_90 cf_X12_within (Nat.le_refl _) (Nat.zero_le _) (Nat.zero_le _) (cat_ok (Nat.le_of_ble_eq_true rfl)) dX12_rowLay_15 hf (fun r12 σ11 hk => ?_)
    replace hf := hk
    clear hk
    refine r_ifeqZ (b := r12) (tgt := 31) (by decide) dX12_rowLay_18 (fun hc => ?_) (fun hc => ?_)
    · replace hf := hf.1 hc
      exact r_sub [0] rfl (b_X12_rowLay_31 hf)
    · replace hf := hf.2 hc
      refine r_iload_n (j := 3) rfl rfl dX12_rowLay_21 ?_
      refine r_iconst (v := 0) (by decide) dX12_rowLay_22 ?_
      refine r_bipush (v := 99) (by decide) dX12_rowLay_23 ?_
      try unfold C_X12_within at hf
      refine r_invSZ (As := [aI v3, aI 0, aI 99]) (dz := d) (mz := 0) (sz := 0) rfl wd_7_89 wd_7_90 cf_X12_within (Nat.le_refl _) (Nat.zero_le _) (Nat.zero_le _) (cat_ok (Nat.le_of_ble_eq_true rfl)) dX12_rowLay_25 hf (fun r14 σ13 hk => ?_)
      replace hf := hk
      clear hk
      refine r_ifneZ (b := r14) (tgt := 37) (by decide) dX12_rowLay_28 (fun hc => ?_) (fun hc => ?_)
      · replace hf := hf.1 hc
        refine r_aload_n (j := 0) rfl rfl dX12_rowLay_37 ?_
        refine r_iload_n (j := 2) rfl rfl dX12_rowLay_38 ?_
        try unfold C_X12_laySizes at hf
        obtain ⟨⟨fs_r16, ha_r16⟩, hf⟩ := hf
        refine r_invVU (t := 12) (As := [aI v2]) (dz := d) (mz := 0) (sz := 0) rfl wd_8_201 wd_8_203 wd_p_97 cf_X12_laySizes (Nat.le_refl _) (Nat.zero_le _) (Nat.zero_le _) (cat_ok (Nat.le_of_ble_eq_true rfl)) rfl rfl ha_r16 dX12_rowLay_39 hf (fun σ15 hk => ?_)
        replace hf := hk
        clear hk
        refine r_iconst (v := 0) (by decide) dX12_rowLay_42 ?_
        refine r_istore (L' := [(4, aI 0), (0, aR (some v0)), (1, aI v1), (2, aI v2), (3, aI v3)]) rfl (Nat.le_of_ble_eq_true rfl) dX12_rowLay_43 ?_
        obtain ⟨n, hf⟩ := hf
        exact r_sub [1, 2, 3, 4, 0] rfl (z_X12_rowLay_45 n _ _ _ _ _ _ hf)
      · replace hf := hf.2 hc
        exact r_sub [0] rfl (b_X12_rowLay_31 hf)
theorem m_X12_rowLay {l : Launch} {G : GG} {d : Nat} {v0 : Nat} {v1 : Int32} {v2 : Int32} {v3 : Int32} {σ : Hp} {K : Int32 → Hp → Prop} (hr : rv σ v0 12) (hf : F_X12_rowLay l G d v0 v1 v2 v3 σ K) : C_X12_rowLay l G (d + 1) v0 v1 v2 v3 σ K := ⟨hr, Sp.of (by decide) (Nat.le_of_ble_eq_true rfl) (b_X12_rowLay_0 hf) rfl⟩
def F_X12_round_91 (l : Launch) (G : GG) (d : Nat) (s0 : Int32) (σ : Hp) (K : Int32 → Hp → Prop) : Prop :=
  K s0 σ
set_option maxRecDepth 100000 in
set_option maxHeartbeats 4000000 in
theorem b_X12_round_91 {l : Launch} {G : GG} {d : Nat} {s0 : Int32} {σ : Hp} {K : Int32 → Hp → Prop} (hf : F_X12_round_91 l G d s0 σ K) : Wd l G (d + 1) "CoinsLaidModel" yX12_round cX12_round 5 (some FieldType.int) 91 [] [aI s0] σ 0 0 (xM (QI K)) := by
  unfold F_X12_round_91 at hf
  exact r_ireturn rfl dX12_round_91 rfl ⟨_, rfl, hf⟩
def F_X12_round_74 (l : Launch) (G : GG) (d : Nat) (X27 : Nat → Bool → Int32 → Hp → Prop) (v0 : Nat) (v2 : Bool) (v3 : Int32) (v4 : Int32) (σ : Hp) (K : Int32 → Hp → Prop) : Prop :=
  ((100 : Int32) < (v4 : Int32) →
    X27 v0 v2 (v3 + 1) σ) ∧
  (¬ (100 : Int32) < (v4 : Int32) →
    (v2 = false →
      F_X12_round_91 l G d v3 σ K) ∧
    (v2 = true →
      F_X12_round_91 l G d v4 σ K))
set_option maxRecDepth 100000 in
set_option maxHeartbeats 4000000 in
theorem b_X12_round_74 {l : Launch} {G : GG} {d : Nat} {X27 : Nat → Bool → Int32 → Hp → Prop} {v0 : Nat} {v2 : Bool} {v3 : Int32} {v4 : Int32} {σ : Hp} {K : Int32 → Hp → Prop} (hX27 : ∀ v0 v2 v3 σ, X27 v0 v2 v3 σ → Wd l G (d + 1) "CoinsLaidModel" yX12_round cX12_round 5 (some FieldType.int) 27 [(0, aR (some v0)), (2, aI (bi v2)), (3, aI v3)] [] σ 0 0 (xM (QI K))) (hf : F_X12_round_74 l G d X27 v0 v2 v3 v4 σ K) : Wd l G (d + 1) "CoinsLaidModel" yX12_round cX12_round 5 (some FieldType.int) 74 [(0, aR (some v0)), (2, aI (bi v2)), (3, aI v3), (4, aI v4)] [] σ 0 0 (xM (QI K)) := by
  unfold F_X12_round_74 at hf
  refine r_iload (j := 3) rfl dX12_round_74 ?_
  refine r_bipush (v := 100) (by decide) dX12_round_76 ?_
  refine r_icmpgt (x := v4) (y := 100) (tgt := 92) (by decide) dX12_round_78 (fun hc => ?_) (fun hc => ?_)
  · replace hf := hf.1 hc
    refine r_iinc (j := 2) (w := (v3 + 1)) (L' := [(3, aI (v3 + 1)), (0, aR (some v0)), (2, aI (bi v2)), (4, aI v4)]) rfl (by rfl) rfl (Nat.le_of_ble_eq_true rfl) dX12_round_92 ?_
    refine r_goto (tgt := 27) (by decide) dX12_round_95 ?_
    exact r_sub [1, 2, 0] rfl (hX27 _ _ _ _ hf)
  · replace hf := hf.2 hc
    refine r_iload_n (j := 1) rfl rfl dX12_round_81 ?_
    refine r_ifeqZ (b := v2) (tgt := 90) (by decide) dX12_round_82 (fun hc => ?_) (fun hc => ?_)
    · replace hf := hf.1 hc
      refine r_iload_n (j := 2) rfl rfl dX12_round_90 ?_
      exact r_sub [] rfl (b_X12_round_91 hf)
    · replace hf := hf.2 hc
      refine r_iload (j := 3) rfl dX12_round_85 ?_
      refine r_goto (tgt := 91) (by decide) dX12_round_87 ?_
      exact r_sub [] rfl (b_X12_round_91 hf)
def F_X12_round_40 (l : Launch) (G : GG) (d : Nat) (X27 : Nat → Bool → Int32 → Hp → Prop) (X40 : Nat → Bool → Int32 → Int32 → Hp → Prop) (v0 : Nat) (v2 : Bool) (v3 : Int32) (v4 : Int32) (σ : Hp) (K : Int32 → Hp → Prop) : Prop :=
  ((v4 : Int32) ≤ 0 →
    F_X12_round_74 l G d X27 v0 v2 v3 v4 σ K) ∧
  (¬ (v4 : Int32) ≤ 0 →
    fN σ v0 12 39 fun x1 =>
    gI σ x1 (v4 - 1) fun x2 =>
    fN σ v0 12 39 fun x3 =>
    gI σ x3 ((v4 - 1) + v3) fun x4 =>
    (¬ (x2 : Int32) = (x4 : Int32) →
      F_X12_round_74 l G d X27 v0 v2 v3 v4 σ K) ∧
    ((x2 : Int32) = (x4 : Int32) →
      X40 v0 v2 v3 (v4 + (-1)) σ))
set_option maxRecDepth 100000 in
set_option maxHeartbeats 4000000 in
theorem b_X12_round_40 {l : Launch} {G : GG} {d : Nat} {X27 : Nat → Bool → Int32 → Hp → Prop} {X40 : Nat → Bool → Int32 → Int32 → Hp → Prop} {v0 : Nat} {v2 : Bool} {v3 : Int32} {v4 : Int32} {σ : Hp} {K : Int32 → Hp → Prop} (hX27 : ∀ v0 v2 v3 σ, X27 v0 v2 v3 σ → Wd l G (d + 1) "CoinsLaidModel" yX12_round cX12_round 5 (some FieldType.int) 27 [(0, aR (some v0)), (2, aI (bi v2)), (3, aI v3)] [] σ 0 0 (xM (QI K))) (hX40 : ∀ v0 v2 v3 v4 σ, X40 v0 v2 v3 v4 σ → Wd l G (d + 1) "CoinsLaidModel" yX12_round cX12_round 5 (some FieldType.int) 40 [(0, aR (some v0)), (2, aI (bi v2)), (3, aI v3), (4, aI v4)] [] σ 0 0 (xM (QI K))) (hf : F_X12_round_40 l G d X27 X40 v0 v2 v3 v4 σ K) : Wd l G (d + 1) "CoinsLaidModel" yX12_round cX12_round 5 (some FieldType.int) 40 [(0, aR (some v0)), (2, aI (bi v2)), (3, aI v3), (4, aI v4)] [] σ 0 0 (xM (QI K)) := by
  unfold F_X12_round_40 at hf
  refine r_iload (j := 3) rfl dX12_round_40 ?_
  refine r_ifle (x := v4) (tgt := 74) (by decide) dX12_round_42 (fun hc => ?_) (fun hc => ?_)
  · replace hf := hf.1 hc
    exact r_sub [0, 1, 2, 3] rfl (b_X12_round_74 hX27 hf)
  · replace hf := hf.2 hc
    refine r_aload_n (j := 0) rfl rfl dX12_round_45 ?_
    obtain ⟨fs_x1, x1, ha_x1, hv_x1, hf⟩ := hf
    refine r_get (Cn := RX12) (Tt := TX12) (N := 42) (n := 39) rfl uw_X12 (Nat.le_of_ble_eq_true rfl) wd_6_225 ha_x1 hv_x1 dX12_round_46 ?_
    refine r_iload (j := 3) rfl dX12_round_49 ?_
    refine r_iconst (v := 1) (by decide) dX12_round_51 ?_
    refine r_isub (x := v4) (y := 1) dX12_round_52 ?_
    obtain ⟨N_x2, f_x2, ha_x2, hi_x2, hf⟩ := hf
    refine r_iald ha_x2 hi_x2 dX12_round_53 ?_
    generalize f_x2 ((v4 - 1) : Int32).toNatClampNeg = x2 at hf ⊢
    refine r_aload_n (j := 0) rfl rfl dX12_round_54 ?_
    obtain ⟨fs_x3, x3, ha_x3, hv_x3, hf⟩ := hf
    refine r_get (Cn := RX12) (Tt := TX12) (N := 42) (n := 39) rfl uw_X12 (Nat.le_of_ble_eq_true rfl) wd_6_225 ha_x3 hv_x3 dX12_round_55 ?_
    refine r_iload (j := 3) rfl dX12_round_58 ?_
    refine r_iconst (v := 1) (by decide) dX12_round_60 ?_
    refine r_isub (x := v4) (y := 1) dX12_round_61 ?_
    refine r_iload_n (j := 2) rfl rfl dX12_round_62 ?_
    refine r_iadd (x := (v4 - 1)) (y := v3) dX12_round_63 ?_
    obtain ⟨N_x4, f_x4, ha_x4, hi_x4, hf⟩ := hf
    refine r_iald ha_x4 hi_x4 dX12_round_64 ?_
    generalize f_x4 (((v4 - 1) + v3) : Int32).toNatClampNeg = x4 at hf ⊢
    refine r_icmpne (x := x2) (y := x4) (tgt := 74) (by decide) dX12_round_65 (fun hc => ?_) (fun hc => ?_)
    · replace hf := hf.1 hc
      exact r_sub [0, 1, 2, 3] rfl (b_X12_round_74 hX27 hf)
    · replace hf := hf.2 hc
      refine r_iinc (j := 3) (w := (v4 + (-1))) (L' := [(4, aI (v4 + (-1))), (0, aR (some v0)), (2, aI (bi v2)), (3, aI v3)]) rfl (by rfl) rfl (Nat.le_of_ble_eq_true rfl) dX12_round_68 ?_
      refine r_goto (tgt := 40) (by decide) dX12_round_71 ?_
      exact r_sub [1, 2, 3, 0] rfl (hX40 _ _ _ _ _ hf)
def Z_X12_round_40 (l : Launch) (G : GG) (d : Nat) (X27 : Nat → Bool → Int32 → Hp → Prop) (K : Int32 → Hp → Prop) : Nat → Nat → Bool → Int32 → Int32 → Hp → Prop
  | 0 => fun _ _ _ _ _ => False
  | n + 1 => fun v0 v2 v3 v4 σ => F_X12_round_40 l G d X27 (Z_X12_round_40 l G d X27 K n) v0 v2 v3 v4 σ K
theorem z_X12_round_40 {l : Launch} {G : GG} {d : Nat} {X27 : Nat → Bool → Int32 → Hp → Prop} {K : Int32 → Hp → Prop} (hX27 : ∀ v0 v2 v3 σ, X27 v0 v2 v3 σ → Wd l G (d + 1) "CoinsLaidModel" yX12_round cX12_round 5 (some FieldType.int) 27 [(0, aR (some v0)), (2, aI (bi v2)), (3, aI v3)] [] σ 0 0 (xM (QI K))) : ∀ (n : Nat) v0 v2 v3 v4 σ, Z_X12_round_40 l G d X27 K n v0 v2 v3 v4 σ → Wd l G (d + 1) "CoinsLaidModel" yX12_round cX12_round 5 (some FieldType.int) 40 [(0, aR (some v0)), (2, aI (bi v2)), (3, aI v3), (4, aI v4)] [] σ 0 0 (xM (QI K)) := by
  intro n
  induction n with
  | zero => intro v0 v2 v3 v4 σ hf; exact hf.elim
  | succ n ih => intro v0 v2 v3 v4 σ hf; exact b_X12_round_40 hX27 ih hf
def F_X12_round_27 (l : Launch) (G : GG) (d : Nat) (X27 : Nat → Bool → Int32 → Hp → Prop) (v0 : Nat) (v2 : Bool) (v3 : Int32) (σ : Hp) (K : Int32 → Hp → Prop) : Prop :=
  ((60 : Int32) < (v3 : Int32) →
    K (-2) σ) ∧
  (¬ (60 : Int32) < (v3 : Int32) →
    ∃ n, Z_X12_round_40 l G d X27 K n v0 v2 v3 (201 - v3) σ)
set_option maxRecDepth 100000 in
set_option maxHeartbeats 4000000 in
theorem b_X12_round_27 {l : Launch} {G : GG} {d : Nat} {X27 : Nat → Bool → Int32 → Hp → Prop} {v0 : Nat} {v2 : Bool} {v3 : Int32} {σ : Hp} {K : Int32 → Hp → Prop} (hX27 : ∀ v0 v2 v3 σ, X27 v0 v2 v3 σ → Wd l G (d + 1) "CoinsLaidModel" yX12_round cX12_round 5 (some FieldType.int) 27 [(0, aR (some v0)), (2, aI (bi v2)), (3, aI v3)] [] σ 0 0 (xM (QI K))) (hf : F_X12_round_27 l G d X27 v0 v2 v3 σ K) : Wd l G (d + 1) "CoinsLaidModel" yX12_round cX12_round 5 (some FieldType.int) 27 [(0, aR (some v0)), (2, aI (bi v2)), (3, aI v3)] [] σ 0 0 (xM (QI K)) := by
  unfold F_X12_round_27 at hf
  refine r_iload_n (j := 2) rfl rfl dX12_round_27 ?_
  refine r_bipush (v := 60) (by decide) dX12_round_28 ?_
  refine r_icmpgt (x := v3) (y := 60) (tgt := 98) (by decide) dX12_round_30 (fun hc => ?_) (fun hc => ?_)
  · replace hf := hf.1 hc
    refine r_bipush (v := (-2)) (by decide) dX12_round_98 ?_
    exact r_ireturn rfl dX12_round_100 rfl ⟨_, rfl, hf⟩
  · replace hf := hf.2 hc
    refine r_sipush (v := 201) (by decide) dX12_round_33 ?_
    refine r_iload_n (j := 2) rfl rfl dX12_round_36 ?_
    refine r_isub (x := 201) (y := v3) dX12_round_37 ?_
    refine r_istore (L' := [(4, aI (201 - v3)), (0, aR (some v0)), (2, aI (bi v2)), (3, aI v3)]) rfl (Nat.le_of_ble_eq_true rfl) dX12_round_38 ?_
    obtain ⟨n, hf⟩ := hf
    exact r_sub [1, 2, 3, 0] rfl (z_X12_round_40 hX27 n _ _ _ _ _ hf)
def Z_X12_round_27 (l : Launch) (G : GG) (d : Nat) (K : Int32 → Hp → Prop) : Nat → Nat → Bool → Int32 → Hp → Prop
  | 0 => fun _ _ _ _ => False
  | n + 1 => fun v0 v2 v3 σ => F_X12_round_27 l G d (Z_X12_round_27 l G d K n) v0 v2 v3 σ K
theorem z_X12_round_27 {l : Launch} {G : GG} {d : Nat} {K : Int32 → Hp → Prop} : ∀ (n : Nat) v0 v2 v3 σ, Z_X12_round_27 l G d K n v0 v2 v3 σ → Wd l G (d + 1) "CoinsLaidModel" yX12_round cX12_round 5 (some FieldType.int) 27 [(0, aR (some v0)), (2, aI (bi v2)), (3, aI v3)] [] σ 0 0 (xM (QI K)) := by
  intro n
  induction n with
  | zero => intro v0 v2 v3 σ hf; exact hf.elim
  | succ n ih => intro v0 v2 v3 σ hf; exact b_X12_round_27 ih hf
def F_X12_round (l : Launch) (G : GG) (d : Nat) (v0 : Nat) (v1 : Int32) (v2 : Bool) (σ : Hp) (K : Int32 → Hp → Prop) : Prop :=
  C_X12_clear l G d v0 σ fun σ5 =>
  C_X12_within l G d v1 1 9 σ5 fun r8 σ7 =>
  (r8 = true →
    C_X12_laySizes l G d v0 v1 σ7 fun σ9 =>
    ∃ n, Z_X12_round_27 l G d K n v0 v2 1 σ9) ∧
  (r8 = false →
    C_X12_no l G d v0 2 σ7 fun r12 σ11 =>
    K r12 σ11)
set_option maxRecDepth 100000 in
set_option maxHeartbeats 4000000 in
theorem b_X12_round_0 {l : Launch} {G : GG} {d : Nat} {v0 : Nat} {v1 : Int32} {v2 : Bool} {σ : Hp} {K : Int32 → Hp → Prop} (hf : F_X12_round l G d v0 v1 v2 σ K) : Wd l G (d + 1) "CoinsLaidModel" yX12_round cX12_round 5 (some FieldType.int) 0 [(0, aR (some v0)), (1, aI v1), (2, aI (bi v2))] [] σ 0 0 (xM (QI K)) := by
  unfold F_X12_round at hf
  refine r_aload_n (j := 0) rfl rfl dX12_round_0 ?_
  try unfold C_X12_clear at hf
  obtain ⟨⟨fs_r6, ha_r6⟩, hf⟩ := hf
  refine r_invVU (t := 12) (As := []) (dz := d) (mz := 0) (sz := 0) rfl wd_7_85 wd_7_87 wd_p_49 cf_X12_clear (Nat.le_refl _) (Nat.zero_le _) (Nat.zero_le _) (cat_ok (Nat.le_of_ble_eq_true rfl)) rfl rfl ha_r6 dX12_round_1 hf (fun σ5 hk => ?_)
  replace hf := hk
  clear hk
  refine r_iload_n (j := 1) rfl rfl dX12_round_4 ?_
  refine r_iconst (v := 1) (by decide) dX12_round_5 ?_
  refine r_bipush (v := 9) (by decide) dX12_round_6 ?_
  try unfold C_X12_within at hf
  refine r_invSZ (As := [aI v1, aI 1, aI 9]) (dz := d) (mz := 0) (sz := 0) rfl wd_7_89 wd_7_90 cf_X12_within (Nat.le_refl _) (Nat.zero_le _) (Nat.zero_le _) (cat_ok (Nat.le_of_ble_eq_true rfl)) dX12_round_8 hf (fun r8 σ7 hk => ?_)
  replace hf := hk
  clear hk
  refine r_ifneZ (b := r8) (tgt := 20) (by decide) dX12_round_11 (fun hc => ?_) (fun hc => ?_)
  · replace hf := hf.1 hc
    refine r_aload_n (j := 0) rfl rfl dX12_round_20 ?_
    refine r_iload_n (j := 1) rfl rfl dX12_round_21 ?_
    try unfold C_X12_laySizes at hf
    obtain ⟨⟨fs_r10, ha_r10⟩, hf⟩ := hf
    refine r_invVU (t := 12) (As := [aI v1]) (dz := d) (mz := 0) (sz := 0) rfl wd_8_201 wd_8_203 wd_p_97 cf_X12_laySizes (Nat.le_refl _) (Nat.zero_le _) (Nat.zero_le _) (cat_ok (Nat.le_of_ble_eq_true rfl)) rfl rfl ha_r10 dX12_round_22 hf (fun σ9 hk => ?_)
    replace hf := hk
    clear hk
    refine r_iconst (v := 1) (by decide) dX12_round_25 ?_
    refine r_istore_n (L' := [(3, aI 1), (0, aR (some v0)), (1, aI v1), (2, aI (bi v2))]) rfl rfl (Nat.le_of_ble_eq_true rfl) dX12_round_26 ?_
    obtain ⟨n, hf⟩ := hf
    exact r_sub [1, 3, 0] rfl (z_X12_round_27 n _ _ _ _ hf)
  · replace hf := hf.2 hc
    refine r_aload_n (j := 0) rfl rfl dX12_round_14 ?_
    refine r_iconst (v := 2) (by decide) dX12_round_15 ?_
    try unfold C_X12_no at hf
    obtain ⟨⟨fs_r12, ha_r12⟩, hf⟩ := hf
    refine r_invVI (t := 12) (As := [aI 2]) (dz := d) (mz := 0) (sz := 0) rfl wd_7_92 wd_7_94 wd_p_50 cf_X12_no (Nat.le_refl _) (Nat.zero_le _) (Nat.zero_le _) (cat_ok (Nat.le_of_ble_eq_true rfl)) rfl rfl ha_r12 dX12_round_16 hf (fun r12 σ11 hk => ?_)
    replace hf := hk
    clear hk
    exact r_ireturn rfl dX12_round_19 rfl ⟨_, rfl, hf⟩
theorem m_X12_round {l : Launch} {G : GG} {d : Nat} {v0 : Nat} {v1 : Int32} {v2 : Bool} {σ : Hp} {K : Int32 → Hp → Prop} (hr : rv σ v0 12) (hf : F_X12_round l G d v0 v1 v2 σ K) : C_X12_round l G (d + 1) v0 v1 v2 σ K := ⟨hr, Sp.of (by decide) (Nat.le_of_ble_eq_true rfl) (b_X12_round_0 hf) rfl⟩
def F_X12_wouldLay_209 (l : Launch) (G : GG) (d : Nat) (s0 : Int32) (σ : Hp) (K : Int32 → Hp → Prop) : Prop :=
  K s0 σ
set_option maxRecDepth 100000 in
set_option maxHeartbeats 4000000 in
theorem b_X12_wouldLay_209 {l : Launch} {G : GG} {d : Nat} {s0 : Int32} {σ : Hp} {K : Int32 → Hp → Prop} (hf : F_X12_wouldLay_209 l G d s0 σ K) : Wd l G (d + 1) "CoinsLaidModel" yX12_wouldLay cX12_wouldLay 7 (some FieldType.int) 209 [] [aI s0] σ 0 0 (xM (QI K)) := by
  unfold F_X12_wouldLay_209 at hf
  exact r_ireturn rfl dX12_wouldLay_209 rfl ⟨_, rfl, hf⟩
def F_X12_wouldLay_157 (l : Launch) (G : GG) (d : Nat) (s0 : Int32) (σ : Hp) (K : Int32 → Hp → Prop) : Prop :=
  K s0 σ
set_option maxRecDepth 100000 in
set_option maxHeartbeats 4000000 in
theorem b_X12_wouldLay_157 {l : Launch} {G : GG} {d : Nat} {s0 : Int32} {σ : Hp} {K : Int32 → Hp → Prop} (hf : F_X12_wouldLay_157 l G d s0 σ K) : Wd l G (d + 1) "CoinsLaidModel" yX12_wouldLay cX12_wouldLay 7 (some FieldType.int) 157 [] [aI s0] σ 0 0 (xM (QI K)) := by
  unfold F_X12_wouldLay_157 at hf
  exact r_ireturn rfl dX12_wouldLay_157 rfl ⟨_, rfl, hf⟩
def F_X12_wouldLay_155 (l : Launch) (G : GG) (d : Nat) (v4 : Int32) (σ : Hp) (K : Int32 → Hp → Prop) : Prop :=
  F_X12_wouldLay_157 l G d v4 σ K
set_option maxRecDepth 100000 in
set_option maxHeartbeats 4000000 in
theorem b_X12_wouldLay_155 {l : Launch} {G : GG} {d : Nat} {v4 : Int32} {σ : Hp} {K : Int32 → Hp → Prop} (hf : F_X12_wouldLay_155 l G d v4 σ K) : Wd l G (d + 1) "CoinsLaidModel" yX12_wouldLay cX12_wouldLay 7 (some FieldType.int) 155 [(4, aI v4)] [] σ 0 0 (xM (QI K)) := by
  unfold F_X12_wouldLay_155 at hf
  refine r_iload (j := 0) rfl dX12_wouldLay_155 ?_
  exact r_sub [] rfl (b_X12_wouldLay_157 hf)
def F_X12_wouldLay_131 (l : Launch) (G : GG) (d : Nat) (v0 : Nat) (v2 : Int32) (v4 : Int32) (s0 : Int32) (σ : Hp) (K : Int32 → Hp → Prop) : Prop :=
  ((s0 : Int32) = ((-2) : Int32) →
    F_X12_wouldLay_155 l G d v4 σ K) ∧
  (¬ (s0 : Int32) = ((-2) : Int32) →
    C_X12_mayBe l G d v0 v2 s0 σ fun r2 σ1 =>
    (r2 = false →
      F_X12_wouldLay_155 l G d v4 σ1 K) ∧
    (r2 = true →
      F_X12_wouldLay_157 l G d s0 σ1 K))
set_option maxRecDepth 100000 in
set_option maxHeartbeats 4000000 in
theorem b_X12_wouldLay_131 {l : Launch} {G : GG} {d : Nat} {v0 : Nat} {v2 : Int32} {v4 : Int32} {s0 : Int32} {σ : Hp} {K : Int32 → Hp → Prop} (hf : F_X12_wouldLay_131 l G d v0 v2 v4 s0 σ K) : Wd l G (d + 1) "CoinsLaidModel" yX12_wouldLay cX12_wouldLay 7 (some FieldType.int) 131 [(0, aR (some v0)), (2, aI v2), (4, aI v4)] [aI s0] σ 0 0 (xM (QI K)) := by
  unfold F_X12_wouldLay_131 at hf
  refine r_istore (L' := [(6, aI s0), (0, aR (some v0)), (2, aI v2), (4, aI v4)]) rfl (Nat.le_of_ble_eq_true rfl) dX12_wouldLay_131 ?_
  refine r_iload (j := 0) rfl dX12_wouldLay_133 ?_
  refine r_bipush (v := (-2)) (by decide) dX12_wouldLay_135 ?_
  refine r_icmpeq (x := s0) (y := (-2)) (tgt := 155) (by decide) dX12_wouldLay_137 (fun hc => ?_) (fun hc => ?_)
  · replace hf := hf.1 hc
    exact r_sub [3] rfl (b_X12_wouldLay_155 hf)
  · replace hf := hf.2 hc
    refine r_aload_n (j := 1) rfl rfl dX12_wouldLay_140 ?_
    refine r_iload_n (j := 2) rfl rfl dX12_wouldLay_141 ?_
    refine r_iload (j := 0) rfl dX12_wouldLay_142 ?_
    try unfold C_X12_mayBe at hf
    obtain ⟨⟨fs_r2, ha_r2⟩, hf⟩ := hf
    refine r_invVZ (t := 12) (As := [aI v2, aI s0]) (dz := d) (mz := 0) (sz := 0) rfl wd_8_30 wd_8_32 wd_p_78 cf_X12_mayBe (Nat.le_refl _) (Nat.zero_le _) (Nat.zero_le _) (cat_ok (Nat.le_of_ble_eq_true rfl)) rfl rfl ha_r2 dX12_wouldLay_144 hf (fun r2 σ1 hk => ?_)
    replace hf := hk
    clear hk
    refine r_ifeqZ (b := r2) (tgt := 155) (by decide) dX12_wouldLay_147 (fun hc => ?_) (fun hc => ?_)
    · replace hf := hf.1 hc
      exact r_sub [3] rfl (b_X12_wouldLay_155 hf)
    · replace hf := hf.2 hc
      refine r_iload (j := 0) rfl dX12_wouldLay_150 ?_
      refine r_goto (tgt := 157) (by decide) dX12_wouldLay_152 ?_
      exact r_sub [] rfl (b_X12_wouldLay_157 hf)
def F_X12_wouldLay_106 (l : Launch) (G : GG) (d : Nat) (X58 : Nat → Int32 → Int32 → Int32 → Hp → Prop) (v0 : Nat) (v2 : Int32) (v5 : Int32) (v6 : Int32) (σ : Hp) (K : Int32 → Hp → Prop) : Prop :=
  X58 v0 v2 v5 (v6 + 1) σ
set_option maxRecDepth 100000 in
set_option maxHeartbeats 4000000 in
theorem b_X12_wouldLay_106 {l : Launch} {G : GG} {d : Nat} {X58 : Nat → Int32 → Int32 → Int32 → Hp → Prop} {v0 : Nat} {v2 : Int32} {v5 : Int32} {v6 : Int32} {σ : Hp} {K : Int32 → Hp → Prop} (hX58 : ∀ v0 v2 v5 v6 σ, X58 v0 v2 v5 v6 σ → Wd l G (d + 1) "CoinsLaidModel" yX12_wouldLay cX12_wouldLay 7 (some FieldType.int) 58 [(0, aR (some v0)), (2, aI v2), (5, aI v5), (6, aI v6)] [] σ 0 0 (xM (QI K))) (hf : F_X12_wouldLay_106 l G d X58 v0 v2 v5 v6 σ K) : Wd l G (d + 1) "CoinsLaidModel" yX12_wouldLay cX12_wouldLay 7 (some FieldType.int) 106 [(0, aR (some v0)), (2, aI v2), (5, aI v5), (6, aI v6)] [] σ 0 0 (xM (QI K)) := by
  unfold F_X12_wouldLay_106 at hf
  refine r_iinc (j := 3) (w := (v6 + 1)) (L' := [(6, aI (v6 + 1)), (0, aR (some v0)), (2, aI v2), (5, aI v5)]) rfl (by rfl) rfl (Nat.le_of_ble_eq_true rfl) dX12_wouldLay_106 ?_
  refine r_goto (tgt := 58) (by decide) dX12_wouldLay_109 ?_
  exact r_sub [1, 2, 3, 0] rfl (hX58 _ _ _ _ _ hf)
def F_X12_wouldLay_58 (l : Launch) (G : GG) (d : Nat) (X58 : Nat → Int32 → Int32 → Int32 → Hp → Prop) (v0 : Nat) (v2 : Int32) (v5 : Int32) (v6 : Int32) (σ : Hp) (K : Int32 → Hp → Prop) : Prop :=
  fI σ v0 12 30 fun x3 =>
  ((x3 : Int32) ≤ (v6 : Int32) →
    K v5 σ) ∧
  (¬ (x3 : Int32) ≤ (v6 : Int32) →
    C_X12_mayBe l G d v0 v2 v6 σ fun r5 σ4 =>
    (r5 = false →
      F_X12_wouldLay_106 l G d X58 v0 v2 v5 v6 σ4 K) ∧
    (r5 = true →
      C_X12_behind l G d v0 v2 v6 σ4 fun r7 σ6 =>
      C_X12_manyMay l G d v0 r7 σ6 fun r9 σ8 =>
      C_X12_behind l G d v0 v2 v5 σ8 fun r11 σ10 =>
      C_X12_manyMay l G d v0 r11 σ10 fun r13 σ12 =>
      ((r13 : Int32) ≤ (r9 : Int32) →
        F_X12_wouldLay_106 l G d X58 v0 v2 v5 v6 σ12 K) ∧
      (¬ (r13 : Int32) ≤ (r9 : Int32) →
        F_X12_wouldLay_106 l G d X58 v0 v2 v6 v6 σ12 K)))
set_option maxRecDepth 100000 in
set_option maxHeartbeats 4000000 in
theorem b_X12_wouldLay_58 {l : Launch} {G : GG} {d : Nat} {X58 : Nat → Int32 → Int32 → Int32 → Hp → Prop} {v0 : Nat} {v2 : Int32} {v5 : Int32} {v6 : Int32} {σ : Hp} {K : Int32 → Hp → Prop} (hX58 : ∀ v0 v2 v5 v6 σ, X58 v0 v2 v5 v6 σ → Wd l G (d + 1) "CoinsLaidModel" yX12_wouldLay cX12_wouldLay 7 (some FieldType.int) 58 [(0, aR (some v0)), (2, aI v2), (5, aI v5), (6, aI v6)] [] σ 0 0 (xM (QI K))) (hf : F_X12_wouldLay_58 l G d X58 v0 v2 v5 v6 σ K) : Wd l G (d + 1) "CoinsLaidModel" yX12_wouldLay cX12_wouldLay 7 (some FieldType.int) 58 [(0, aR (some v0)), (2, aI v2), (5, aI v5), (6, aI v6)] [] σ 0 0 (xM (QI K)) := by
  unfold F_X12_wouldLay_58 at hf
  refine r_iload (j := 3) rfl dX12_wouldLay_58 ?_
  refine r_aload_n (j := 0) rfl rfl dX12_wouldLay_60 ?_
  obtain ⟨fs_x3, x3, ha_x3, hv_x3, hf⟩ := hf
  refine r_get (Cn := RX12) (Tt := TX12) (N := 42) (n := 30) rfl uw_X12 (Nat.le_of_ble_eq_true rfl) wd_6_216 ha_x3 hv_x3 dX12_wouldLay_61 ?_
  refine r_icmpge (x := v6) (y := x3) (tgt := 112) (by decide) dX12_wouldLay_64 (fun hc => ?_) (fun hc => ?_)
  · replace hf := hf.1 hc
    refine r_iload (j := 2) rfl dX12_wouldLay_112 ?_
    exact r_ireturn rfl dX12_wouldLay_114 rfl ⟨_, rfl, hf⟩
  · replace hf := hf.2 hc
    refine r_aload_n (j := 0) rfl rfl dX12_wouldLay_67 ?_
    refine r_iload_n (j := 1) rfl rfl dX12_wouldLay_68 ?_
    refine r_iload (j := 3) rfl dX12_wouldLay_69 ?_
    try unfold C_X12_mayBe at hf
    obtain ⟨⟨fs_r5, ha_r5⟩, hf⟩ := hf
    refine r_invVZ (t := 12) (As := [aI v2, aI v6]) (dz := d) (mz := 0) (sz := 0) rfl wd_8_30 wd_8_32 wd_p_78 cf_X12_mayBe (Nat.le_refl _) (Nat.zero_le _) (Nat.zero_le _) (cat_ok (Nat.le_of_ble_eq_true rfl)) rfl rfl ha_r5 dX12_wouldLay_71 hf (fun r5 σ4 hk => ?_)
    replace hf := hk
    clear hk
    refine r_ifeqZ (b := r5) (tgt := 106) (by decide) dX12_wouldLay_74 (fun hc => ?_) (fun hc => ?_)
    · replace hf := hf.1 hc
      exact r_sub [0, 1, 2, 3] rfl (b_X12_wouldLay_106 hX58 hf)
    · replace hf := hf.2 hc
      refine r_aload_n (j := 0) rfl rfl dX12_wouldLay_77 ?_
      refine r_aload_n (j := 0) rfl rfl dX12_wouldLay_78 ?_
      refine r_iload_n (j := 1) rfl rfl dX12_wouldLay_79 ?_
      refine r_iload (j := 3) rfl dX12_wouldLay_80 ?_
      try unfold C_X12_behind at hf
      obtain ⟨⟨fs_r7, ha_r7⟩, hf⟩ := hf
      refine r_invVI (t := 12) (As := [aI v2, aI v6]) (dz := d) (mz := 0) (sz := 0) rfl wd_8_100 wd_8_102 wd_p_85 cf_X12_behind (Nat.le_refl _) (Nat.zero_le _) (Nat.zero_le _) (cat_ok (Nat.le_of_ble_eq_true rfl)) rfl rfl ha_r7 dX12_wouldLay_82 hf (fun r7 σ6 hk => ?_)
      replace hf := hk
      clear hk
      try unfold C_X12_manyMay at hf
      obtain ⟨⟨fs_r9, ha_r9⟩, hf⟩ := hf
      refine r_invVI (t := 12) (As := [aI r7]) (dz := d) (mz := 0) (sz := 0) rfl wd_8_44 wd_8_46 wd_p_79 cf_X12_manyMay (Nat.le_refl _) (Nat.zero_le _) (Nat.zero_le _) (cat_ok (Nat.le_of_ble_eq_true rfl)) rfl rfl ha_r9 dX12_wouldLay_85 hf (fun r9 σ8 hk => ?_)
      replace hf := hk
      clear hk
      refine r_aload_n (j := 0) rfl rfl dX12_wouldLay_88 ?_
      refine r_aload_n (j := 0) rfl rfl dX12_wouldLay_89 ?_
      refine r_iload_n (j := 1) rfl rfl dX12_wouldLay_90 ?_
      refine r_iload (j := 2) rfl dX12_wouldLay_91 ?_
      try unfold C_X12_behind at hf
      obtain ⟨⟨fs_r11, ha_r11⟩, hf⟩ := hf
      refine r_invVI (t := 12) (As := [aI v2, aI v5]) (dz := d) (mz := 0) (sz := 0) rfl wd_8_100 wd_8_102 wd_p_85 cf_X12_behind (Nat.le_refl _) (Nat.zero_le _) (Nat.zero_le _) (cat_ok (Nat.le_of_ble_eq_true rfl)) rfl rfl ha_r11 dX12_wouldLay_93 hf (fun r11 σ10 hk => ?_)
      replace hf := hk
      clear hk
      try unfold C_X12_manyMay at hf
      obtain ⟨⟨fs_r13, ha_r13⟩, hf⟩ := hf
      refine r_invVI (t := 12) (As := [aI r11]) (dz := d) (mz := 0) (sz := 0) rfl wd_8_44 wd_8_46 wd_p_79 cf_X12_manyMay (Nat.le_refl _) (Nat.zero_le _) (Nat.zero_le _) (cat_ok (Nat.le_of_ble_eq_true rfl)) rfl rfl ha_r13 dX12_wouldLay_96 hf (fun r13 σ12 hk => ?_)
      replace hf := hk
      clear hk
      refine r_icmpge (x := r9) (y := r13) (tgt := 106) (by decide) dX12_wouldLay_99 (fun hc => ?_) (fun hc => ?_)
      · replace hf := hf.1 hc
        exact r_sub [0, 1, 2, 3] rfl (b_X12_wouldLay_106 hX58 hf)
      · replace hf := hf.2 hc
        refine r_iload (j := 3) rfl dX12_wouldLay_102 ?_
        refine r_istore (L' := [(5, aI v6), (0, aR (some v0)), (2, aI v2), (6, aI v6)]) rfl (Nat.le_of_ble_eq_true rfl) dX12_wouldLay_104 ?_
        exact r_sub [1, 2, 0, 3] rfl (b_X12_wouldLay_106 hX58 hf)
def Z_X12_wouldLay_58 (l : Launch) (G : GG) (d : Nat) (K : Int32 → Hp → Prop) : Nat → Nat → Int32 → Int32 → Int32 → Hp → Prop
  | 0 => fun _ _ _ _ _ => False
  | n + 1 => fun v0 v2 v5 v6 σ => F_X12_wouldLay_58 l G d (Z_X12_wouldLay_58 l G d K n) v0 v2 v5 v6 σ K
theorem z_X12_wouldLay_58 {l : Launch} {G : GG} {d : Nat} {K : Int32 → Hp → Prop} : ∀ (n : Nat) v0 v2 v5 v6 σ, Z_X12_wouldLay_58 l G d K n v0 v2 v5 v6 σ → Wd l G (d + 1) "CoinsLaidModel" yX12_wouldLay cX12_wouldLay 7 (some FieldType.int) 58 [(0, aR (some v0)), (2, aI v2), (5, aI v5), (6, aI v6)] [] σ 0 0 (xM (QI K)) := by
  intro n
  induction n with
  | zero => intro v0 v2 v5 v6 σ hf; exact hf.elim
  | succ n ih => intro v0 v2 v5 v6 σ hf; exact b_X12_wouldLay_58 ih hf
def F_X12_wouldLay (l : Launch) (G : GG) (d : Nat) (v0 : Nat) (v1 : Int32) (v2 : Int32) (v3 : Int32) (σ : Hp) (K : Int32 → Hp → Prop) : Prop :=
  C_X12_mayAt l G d v0 v2 0 σ fun r15 σ14 =>
  (¬ (r15 : Int32) = ((-2) : Int32) →
    ((v1 : Int32) = 0 →
      K r15 σ14) ∧
    ((v1 : Int32) = 1 →
      ∃ n, Z_X12_wouldLay_58 l G d K n v0 v2 r15 0 σ14) ∧
    ((v1 : Int32) = 2 →
      (¬ (v3 : Int32) = ((-2) : Int32) →
        C_X12_acrossOf l G d v0 v3 σ14 fun r17 σ16 =>
        F_X12_wouldLay_131 l G d v0 v2 r15 r17 σ16 K) ∧
      ((v3 : Int32) = ((-2) : Int32) →
        F_X12_wouldLay_131 l G d v0 v2 r15 (-2) σ14 K)) ∧
    ((v1 : Int32) = 3 →
      fI σ14 v0 12 40 fun x18 =>
      ¬ (65537 : Int32) = 0 ∧
      pF σ14 v0 12 40 (aI (((75 * x18) + 74) - ((75 * x18) + 74) / 65537 * 65537)) fun σ19 =>
      fI σ19 v0 12 40 fun x21 =>
      C_X12_manyMay l G d v0 v2 σ19 fun r23 σ22 =>
      ¬ (r23 : Int32) = 0 ∧
      C_X12_mayAt l G d v0 v2 (x21 - x21 / r23 * r23) σ22 fun r25 σ24 =>
      K r25 σ24) ∧
    (¬ (v1 : Int32) = 0 → ¬ (v1 : Int32) = 1 → ¬ (v1 : Int32) = 2 → ¬ (v1 : Int32) = 3 →
      C_X12_goodOnes l G d v0 v2 σ14 fun r27 σ26 =>
      ((r27 : Int32) ≤ 0 →
        F_X12_wouldLay_209 l G d r15 σ26 K) ∧
      (¬ (r27 : Int32) ≤ 0 →
        fI σ26 v0 12 38 fun x28 =>
        F_X12_wouldLay_209 l G d x28 σ26 K))) ∧
  ((r15 : Int32) = ((-2) : Int32) →
    K (-2) σ14)
set_option maxRecDepth 100000 in
set_option maxHeartbeats 4000000 in
theorem b_X12_wouldLay_0 {l : Launch} {G : GG} {d : Nat} {v0 : Nat} {v1 : Int32} {v2 : Int32} {v3 : Int32} {σ : Hp} {K : Int32 → Hp → Prop} (hf : F_X12_wouldLay l G d v0 v1 v2 v3 σ K) : Wd l G (d + 1) "CoinsLaidModel" yX12_wouldLay cX12_wouldLay 7 (some FieldType.int) 0 [(0, aR (some v0)), (1, aI v1), (2, aI v2), (3, aI v3)] [] σ 0 0 (xM (QI K)) := by
  unfold F_X12_wouldLay at hf
  refine r_aload_n (j := 0) rfl rfl dX12_wouldLay_0 ?_
  refine r_iload_n (j := 2) rfl rfl dX12_wouldLay_1 ?_
  refine r_iconst (v := 0) (by decide) dX12_wouldLay_2 ?_
  try unfold C_X12_mayAt at hf
  obtain ⟨⟨fs_r15, ha_r15⟩, hf⟩ := hf
  refine r_invVI (t := 12) (As := [aI v2, aI 0]) (dz := d) (mz := 0) (sz := 0) rfl wd_8_52 wd_8_54 wd_p_80 cf_X12_mayAt (Nat.le_refl _) (Nat.zero_le _) (Nat.zero_le _) (cat_ok (Nat.le_of_ble_eq_true rfl)) rfl rfl ha_r15 dX12_wouldLay_3 hf (fun r15 σ14 hk => ?_)
  replace hf := hk
  clear hk
  refine r_istore (L' := [(4, aI r15), (0, aR (some v0)), (1, aI v1), (2, aI v2), (3, aI v3)]) rfl (Nat.le_of_ble_eq_true rfl) dX12_wouldLay_6 ?_
  refine r_iload (j := 0) rfl dX12_wouldLay_8 ?_
  refine r_bipush (v := (-2)) (by decide) dX12_wouldLay_10 ?_
  refine r_icmpne (x := r15) (y := (-2)) (tgt := 18) (by decide) dX12_wouldLay_12 (fun hc => ?_) (fun hc => ?_)
  · replace hf := hf.1 hc
    refine r_iload_n (j := 2) rfl rfl dX12_wouldLay_18 ?_
    by_cases hc0 : (v1 : Int32) = 0
    · replace hf := hf.1 hc0
      refine r_tabIn (tgt := 48) (off := 29) (by rw [hc0]; decide) (by rw [hc0]; decide) (by rw [hc0]; decide) (by decide) dX12_wouldLay_19 ?_
      refine r_iload (j := 0) rfl dX12_wouldLay_48 ?_
      exact r_ireturn rfl dX12_wouldLay_50 rfl ⟨_, rfl, hf⟩
    by_cases hc1 : (v1 : Int32) = 1
    · replace hf := hf.2.1 hc1
      refine r_tabIn (tgt := 51) (off := 32) (by rw [hc1]; decide) (by rw [hc1]; decide) (by rw [hc1]; decide) (by decide) dX12_wouldLay_19 ?_
      refine r_iload (j := 0) rfl dX12_wouldLay_51 ?_
      refine r_istore (L' := [(5, aI r15), (4, aI r15), (0, aR (some v0)), (1, aI v1), (2, aI v2), (3, aI v3)]) rfl (Nat.le_of_ble_eq_true rfl) dX12_wouldLay_53 ?_
      refine r_iconst (v := 0) (by decide) dX12_wouldLay_55 ?_
      refine r_istore (L' := [(6, aI 0), (5, aI r15), (4, aI r15), (0, aR (some v0)), (1, aI v1), (2, aI v2), (3, aI v3)]) rfl (Nat.le_of_ble_eq_true rfl) dX12_wouldLay_56 ?_
      obtain ⟨n, hf⟩ := hf
      exact r_sub [3, 5, 1, 0] rfl (z_X12_wouldLay_58 n _ _ _ _ _ hf)
    by_cases hc2 : (v1 : Int32) = 2
    · replace hf := hf.2.2.1 hc2
      refine r_tabIn (tgt := 115) (off := 96) (by rw [hc2]; decide) (by rw [hc2]; decide) (by rw [hc2]; decide) (by decide) dX12_wouldLay_19 ?_
      refine r_iload_n (j := 4) rfl rfl dX12_wouldLay_115 ?_
      refine r_bipush (v := (-2)) (by decide) dX12_wouldLay_116 ?_
      refine r_icmpne (x := v3) (y := (-2)) (tgt := 126) (by decide) dX12_wouldLay_118 (fun hc => ?_) (fun hc => ?_)
      · replace hf := hf.1 hc
        refine r_aload_n (j := 1) rfl rfl dX12_wouldLay_126 ?_
        refine r_iload_n (j := 4) rfl rfl dX12_wouldLay_127 ?_
        try unfold C_X12_acrossOf at hf
        obtain ⟨⟨fs_r17, ha_r17⟩, hf⟩ := hf
        refine r_invVI (t := 12) (As := [aI v3]) (dz := d) (mz := 0) (sz := 0) rfl wd_8_60 wd_8_62 wd_p_81 cf_X12_acrossOf (Nat.le_refl _) (Nat.zero_le _) (Nat.zero_le _) (cat_ok (Nat.le_of_ble_eq_true rfl)) rfl rfl ha_r17 dX12_wouldLay_128 hf (fun r17 σ16 hk => ?_)
        replace hf := hk
        clear hk
        exact r_sub [1, 3, 0] rfl (b_X12_wouldLay_131 hf)
      · replace hf := hf.2 hc
        refine r_bipush (v := (-2)) (by decide) dX12_wouldLay_121 ?_
        refine r_goto (tgt := 131) (by decide) dX12_wouldLay_123 ?_
        exact r_sub [1, 3, 0] rfl (b_X12_wouldLay_131 hf)
    by_cases hc3 : (v1 : Int32) = 3
    · replace hf := hf.2.2.2.1 hc3
      refine r_tabIn (tgt := 158) (off := 139) (by rw [hc3]; decide) (by rw [hc3]; decide) (by rw [hc3]; decide) (by decide) dX12_wouldLay_19 ?_
      refine r_aload_n (j := 1) rfl rfl dX12_wouldLay_158 ?_
      refine r_bipush (v := 75) (by decide) dX12_wouldLay_159 ?_
      refine r_aload_n (j := 1) rfl rfl dX12_wouldLay_161 ?_
      obtain ⟨fs_x18, x18, ha_x18, hv_x18, hf⟩ := hf
      refine r_get (Cn := RX12) (Tt := TX12) (N := 42) (n := 40) rfl uw_X12 (Nat.le_of_ble_eq_true rfl) wd_6_226 ha_x18 hv_x18 dX12_wouldLay_162 ?_
      refine r_imul (x := 75) (y := x18) dX12_wouldLay_165 ?_
      refine r_bipush (v := 74) (by decide) dX12_wouldLay_166 ?_
      refine r_iadd (x := (75 * x18)) (y := 74) dX12_wouldLay_168 ?_
      refine r_ldcw wd_8_233 dX12_wouldLay_169 ?_
      obtain ⟨hne, hf⟩ := hf
      refine r_irem hne dX12_wouldLay_172 ?_
      obtain ⟨fs_x20, ha_x20, hf⟩ := hf
      generalize hσ19 : hset σ14 v0 (.inl (12, fs_x20.set 40 (aI (((75 * x18) + 74) - ((75 * x18) + 74) / 65537 * 65537)))) = σ19 at hf
      refine r_put (Cn := RX12) (Tt := TX12) (N := 42) (n := 40) (v := aI (((75 * x18) + 74) - ((75 * x18) + 74) / 65537 * 65537)) rfl uw_X12 (Nat.le_of_ble_eq_true rfl) wd_6_226 ha_x20 (ty0 := tyX12) tyX12_ok nmX12 rfl (fo_I (((75 * x18) + 74) - ((75 * x18) + 74) / 65537 * 65537)) dX12_wouldLay_173 ?_
      rw [hσ19]
      refine r_aload_n (j := 1) rfl rfl dX12_wouldLay_176 ?_
      refine r_iload_n (j := 3) rfl rfl dX12_wouldLay_177 ?_
      refine r_aload_n (j := 1) rfl rfl dX12_wouldLay_178 ?_
      obtain ⟨fs_x21, x21, ha_x21, hv_x21, hf⟩ := hf
      refine r_get (Cn := RX12) (Tt := TX12) (N := 42) (n := 40) rfl uw_X12 (Nat.le_of_ble_eq_true rfl) wd_6_226 ha_x21 hv_x21 dX12_wouldLay_179 ?_
      refine r_aload_n (j := 1) rfl rfl dX12_wouldLay_182 ?_
      refine r_iload_n (j := 3) rfl rfl dX12_wouldLay_183 ?_
      try unfold C_X12_manyMay at hf
      obtain ⟨⟨fs_r23, ha_r23⟩, hf⟩ := hf
      refine r_invVI (t := 12) (As := [aI v2]) (dz := d) (mz := 0) (sz := 0) rfl wd_8_44 wd_8_46 wd_p_79 cf_X12_manyMay (Nat.le_refl _) (Nat.zero_le _) (Nat.zero_le _) (cat_ok (Nat.le_of_ble_eq_true rfl)) rfl rfl ha_r23 dX12_wouldLay_184 hf (fun r23 σ22 hk => ?_)
      replace hf := hk
      clear hk
      obtain ⟨hne, hf⟩ := hf
      refine r_irem hne dX12_wouldLay_187 ?_
      try unfold C_X12_mayAt at hf
      obtain ⟨⟨fs_r25, ha_r25⟩, hf⟩ := hf
      refine r_invVI (t := 12) (As := [aI v2, aI (x21 - x21 / r23 * r23)]) (dz := d) (mz := 0) (sz := 0) rfl wd_8_52 wd_8_54 wd_p_80 cf_X12_mayAt (Nat.le_refl _) (Nat.zero_le _) (Nat.zero_le _) (cat_ok (Nat.le_of_ble_eq_true rfl)) rfl rfl ha_r25 dX12_wouldLay_188 hf (fun r25 σ24 hk => ?_)
      replace hf := hk
      clear hk
      exact r_ireturn rfl dX12_wouldLay_191 rfl ⟨_, rfl, hf⟩
    replace hf := hf.2.2.2.2 hc0 hc1 hc2 hc3
    refine r_tabOut (x := v1) (tgt := 192) (tab_out (tab_cons (lo' := 1) (tab_ne hc0 (by decide)) (by decide) (tab_cons (lo' := 2) (tab_ne hc1 (by decide)) (by decide) (tab_cons (lo' := 3) (tab_ne hc2 (by decide)) (by decide) (tab_cons (lo' := 4) (tab_ne hc3 (by decide)) (by decide) (tab_nil (by decide))))))) (by decide) dX12_wouldLay_19 ?_
    refine r_aload_n (j := 1) rfl rfl dX12_wouldLay_192 ?_
    refine r_iload_n (j := 3) rfl rfl dX12_wouldLay_193 ?_
    try unfold C_X12_goodOnes at hf
    obtain ⟨⟨fs_r27, ha_r27⟩, hf⟩ := hf
    refine r_invVI (t := 12) (As := [aI v2]) (dz := d) (mz := 0) (sz := 0) rfl wd_8_108 wd_8_110 wd_p_86 cf_X12_goodOnes (Nat.le_refl _) (Nat.zero_le _) (Nat.zero_le _) (cat_ok (Nat.le_of_ble_eq_true rfl)) rfl rfl ha_r27 dX12_wouldLay_194 hf (fun r27 σ26 hk => ?_)
    replace hf := hk
    clear hk
    refine r_ifle (x := r27) (tgt := 207) (by decide) dX12_wouldLay_197 (fun hc => ?_) (fun hc => ?_)
    · replace hf := hf.1 hc
      refine r_iload (j := 0) rfl dX12_wouldLay_207 ?_
      exact r_sub [] rfl (b_X12_wouldLay_209 hf)
    · replace hf := hf.2 hc
      refine r_aload_n (j := 1) rfl rfl dX12_wouldLay_200 ?_
      obtain ⟨fs_x28, x28, ha_x28, hv_x28, hf⟩ := hf
      refine r_get (Cn := RX12) (Tt := TX12) (N := 42) (n := 38) rfl uw_X12 (Nat.le_of_ble_eq_true rfl) wd_6_224 ha_x28 hv_x28 dX12_wouldLay_201 ?_
      refine r_goto (tgt := 209) (by decide) dX12_wouldLay_204 ?_
      exact r_sub [] rfl (b_X12_wouldLay_209 hf)
  · replace hf := hf.2 hc
    refine r_bipush (v := (-2)) (by decide) dX12_wouldLay_15 ?_
    exact r_ireturn rfl dX12_wouldLay_17 rfl ⟨_, rfl, hf⟩
theorem m_X12_wouldLay {l : Launch} {G : GG} {d : Nat} {v0 : Nat} {v1 : Int32} {v2 : Int32} {v3 : Int32} {σ : Hp} {K : Int32 → Hp → Prop} (hr : rv σ v0 12) (hf : F_X12_wouldLay l G d v0 v1 v2 v3 σ K) : C_X12_wouldLay l G (d + 1) v0 v1 v2 v3 σ K := ⟨hr, Sp.of (by decide) (Nat.le_of_ble_eq_true rfl) (b_X12_wouldLay_0 hf) rfl⟩
def F_X12_latest_29 (l : Launch) (G : GG) (d : Nat) (s0 : Int32) (σ : Hp) (K : Int32 → Hp → Prop) : Prop :=
  K s0 σ
set_option maxRecDepth 100000 in
set_option maxHeartbeats 4000000 in
theorem b_X12_latest_29 {l : Launch} {G : GG} {d : Nat} {s0 : Int32} {σ : Hp} {K : Int32 → Hp → Prop} (hf : F_X12_latest_29 l G d s0 σ K) : Wd l G (d + 1) "CoinsLaidModel" yX12_latest cX12_latest 1 (some FieldType.int) 29 [] [aI s0] σ 0 0 (xM (QI K)) := by
  unfold F_X12_latest_29 at hf
  exact r_ireturn rfl dX12_latest_29 rfl ⟨_, rfl, hf⟩
def F_X12_latest (l : Launch) (G : GG) (d : Nat) (v0 : Nat) (σ : Hp) (K : Int32 → Hp → Prop) : Prop :=
  fN σ v0 12 17 fun x1 =>
  gI σ x1 0 fun x2 =>
  (¬ (x2 : Int32) = 0 →
    fN σ v0 12 17 fun x3 =>
    fN σ v0 12 17 fun x4 =>
    gI σ x4 0 fun x5 =>
    gI σ x3 ((1 + x5) - 1) fun x6 =>
    F_X12_latest_29 l G d x6 σ K) ∧
  ((x2 : Int32) = 0 →
    F_X12_latest_29 l G d (-2) σ K)
set_option maxRecDepth 100000 in
set_option maxHeartbeats 4000000 in
theorem b_X12_latest_0 {l : Launch} {G : GG} {d : Nat} {v0 : Nat} {σ : Hp} {K : Int32 → Hp → Prop} (hf : F_X12_latest l G d v0 σ K) : Wd l G (d + 1) "CoinsLaidModel" yX12_latest cX12_latest 1 (some FieldType.int) 0 [(0, aR (some v0))] [] σ 0 0 (xM (QI K)) := by
  unfold F_X12_latest at hf
  refine r_aload_n (j := 0) rfl rfl dX12_latest_0 ?_
  obtain ⟨fs_x1, x1, ha_x1, hv_x1, hf⟩ := hf
  refine r_get (Cn := RX12) (Tt := TX12) (N := 42) (n := 17) rfl uw_X12 (Nat.le_of_ble_eq_true rfl) wd_6_203 ha_x1 hv_x1 dX12_latest_1 ?_
  refine r_iconst (v := 0) (by decide) dX12_latest_4 ?_
  obtain ⟨N_x2, f_x2, ha_x2, hi_x2, hf⟩ := hf
  refine r_iald ha_x2 hi_x2 dX12_latest_5 ?_
  generalize f_x2 (0 : Int32).toNatClampNeg = x2 at hf ⊢
  refine r_ifne (x := x2) (tgt := 14) (by decide) dX12_latest_6 (fun hc => ?_) (fun hc => ?_)
  · replace hf := hf.1 hc
    refine r_aload_n (j := 0) rfl rfl dX12_latest_14 ?_
    obtain ⟨fs_x3, x3, ha_x3, hv_x3, hf⟩ := hf
    refine r_get (Cn := RX12) (Tt := TX12) (N := 42) (n := 17) rfl uw_X12 (Nat.le_of_ble_eq_true rfl) wd_6_203 ha_x3 hv_x3 dX12_latest_15 ?_
    refine r_iconst (v := 1) (by decide) dX12_latest_18 ?_
    refine r_aload_n (j := 0) rfl rfl dX12_latest_19 ?_
    obtain ⟨fs_x4, x4, ha_x4, hv_x4, hf⟩ := hf
    refine r_get (Cn := RX12) (Tt := TX12) (N := 42) (n := 17) rfl uw_X12 (Nat.le_of_ble_eq_true rfl) wd_6_203 ha_x4 hv_x4 dX12_latest_20 ?_
    refine r_iconst (v := 0) (by decide) dX12_latest_23 ?_
    obtain ⟨N_x5, f_x5, ha_x5, hi_x5, hf⟩ := hf
    refine r_iald ha_x5 hi_x5 dX12_latest_24 ?_
    generalize f_x5 (0 : Int32).toNatClampNeg = x5 at hf ⊢
    refine r_iadd (x := 1) (y := x5) dX12_latest_25 ?_
    refine r_iconst (v := 1) (by decide) dX12_latest_26 ?_
    refine r_isub (x := (1 + x5)) (y := 1) dX12_latest_27 ?_
    obtain ⟨N_x6, f_x6, ha_x6, hi_x6, hf⟩ := hf
    refine r_iald ha_x6 hi_x6 dX12_latest_28 ?_
    generalize f_x6 (((1 + x5) - 1) : Int32).toNatClampNeg = x6 at hf ⊢
    exact r_sub [] rfl (b_X12_latest_29 hf)
  · replace hf := hf.2 hc
    refine r_bipush (v := (-2)) (by decide) dX12_latest_9 ?_
    refine r_goto (tgt := 29) (by decide) dX12_latest_11 ?_
    exact r_sub [] rfl (b_X12_latest_29 hf)
theorem m_X12_latest {l : Launch} {G : GG} {d : Nat} {v0 : Nat} {σ : Hp} {K : Int32 → Hp → Prop} (hr : rv σ v0 12) (hf : F_X12_latest l G d v0 σ K) : C_X12_latest l G (d + 1) v0 σ K := ⟨hr, Sp.of (by decide) (Nat.le_of_ble_eq_true rfl) (b_X12_latest_0 hf) rfl⟩
def F_X12_isPlayer_21 (l : Launch) (G : GG) (d : Nat) (s0 : Bool) (σ : Hp) (K : Bool → Hp → Prop) : Prop :=
  K s0 σ
set_option maxRecDepth 100000 in
set_option maxHeartbeats 4000000 in
theorem b_X12_isPlayer_21 {l : Launch} {G : GG} {d : Nat} {s0 : Bool} {σ : Hp} {K : Bool → Hp → Prop} (hf : F_X12_isPlayer_21 l G d s0 σ K) : Wd l G (d + 1) "CoinsLaidModel" yX12_isPlayer cX12_isPlayer 2 (some FieldType.boolean) 21 [] [aI (bi s0)] σ 0 0 (xM (QZ K)) := by
  unfold F_X12_isPlayer_21 at hf
  exact r_zreturn (b := s0) rfl dX12_isPlayer_21 rfl ⟨_, rfl, hf⟩
def F_X12_isPlayer_20 (l : Launch) (G : GG) (d : Nat) (σ : Hp) (K : Bool → Hp → Prop) : Prop :=
  F_X12_isPlayer_21 l G d false σ K
set_option maxRecDepth 100000 in
set_option maxHeartbeats 4000000 in
theorem b_X12_isPlayer_20 {l : Launch} {G : GG} {d : Nat} {σ : Hp} {K : Bool → Hp → Prop} (hf : F_X12_isPlayer_20 l G d  σ K) : Wd l G (d + 1) "CoinsLaidModel" yX12_isPlayer cX12_isPlayer 2 (some FieldType.boolean) 20 [] [] σ 0 0 (xM (QZ K)) := by
  unfold F_X12_isPlayer_20 at hf
  refine r_iconst (v := 0) (by decide) dX12_isPlayer_20 ?_
  exact r_sub [] rfl (b_X12_isPlayer_21 hf)
def F_X12_isPlayer (l : Launch) (G : GG) (d : Nat) (v0 : Nat) (v1 : Int32) (σ : Hp) (K : Bool → Hp → Prop) : Prop :=
  fZ σ v0 12 14 fun x1 =>
  (x1 = false →
    F_X12_isPlayer_20 l G d σ K) ∧
  (x1 = true →
    C_X12_within l G d v1 0 4 σ fun r3 σ2 =>
    (r3 = false →
      F_X12_isPlayer_20 l G d σ2 K) ∧
    (r3 = true →
      F_X12_isPlayer_21 l G d true σ2 K))
set_option maxRecDepth 100000 in
set_option maxHeartbeats 4000000 in
theorem b_X12_isPlayer_0 {l : Launch} {G : GG} {d : Nat} {v0 : Nat} {v1 : Int32} {σ : Hp} {K : Bool → Hp → Prop} (hf : F_X12_isPlayer l G d v0 v1 σ K) : Wd l G (d + 1) "CoinsLaidModel" yX12_isPlayer cX12_isPlayer 2 (some FieldType.boolean) 0 [(0, aR (some v0)), (1, aI v1)] [] σ 0 0 (xM (QZ K)) := by
  unfold F_X12_isPlayer at hf
  refine r_aload_n (j := 0) rfl rfl dX12_isPlayer_0 ?_
  obtain ⟨fs_x1, x1, ha_x1, hv_x1, hf⟩ := hf
  refine r_get (Cn := RX12) (Tt := TX12) (N := 42) (n := 14) rfl uw_X12 (Nat.le_of_ble_eq_true rfl) wd_6_200 ha_x1 hv_x1 dX12_isPlayer_1 ?_
  refine r_ifeqZ (b := x1) (tgt := 20) (by decide) dX12_isPlayer_4 (fun hc => ?_) (fun hc => ?_)
  · replace hf := hf.1 hc
    exact r_sub [] rfl (b_X12_isPlayer_20 hf)
  · replace hf := hf.2 hc
    refine r_iload_n (j := 1) rfl rfl dX12_isPlayer_7 ?_
    refine r_iconst (v := 0) (by decide) dX12_isPlayer_8 ?_
    refine r_iconst (v := 4) (by decide) dX12_isPlayer_9 ?_
    try unfold C_X12_within at hf
    refine r_invSZ (As := [aI v1, aI 0, aI 4]) (dz := d) (mz := 0) (sz := 0) rfl wd_7_89 wd_7_90 cf_X12_within (Nat.le_refl _) (Nat.zero_le _) (Nat.zero_le _) (cat_ok (Nat.le_of_ble_eq_true rfl)) dX12_isPlayer_10 hf (fun r3 σ2 hk => ?_)
    replace hf := hk
    clear hk
    refine r_ifeqZ (b := r3) (tgt := 20) (by decide) dX12_isPlayer_13 (fun hc => ?_) (fun hc => ?_)
    · replace hf := hf.1 hc
      exact r_sub [] rfl (b_X12_isPlayer_20 hf)
    · replace hf := hf.2 hc
      refine r_iconst (v := 1) (by decide) dX12_isPlayer_16 ?_
      refine r_goto (tgt := 21) (by decide) dX12_isPlayer_17 ?_
      exact r_sub [] rfl (b_X12_isPlayer_21 hf)
theorem m_X12_isPlayer {l : Launch} {G : GG} {d : Nat} {v0 : Nat} {v1 : Int32} {σ : Hp} {K : Bool → Hp → Prop} (hr : rv σ v0 12) (hf : F_X12_isPlayer l G d v0 v1 σ K) : C_X12_isPlayer l G (d + 1) v0 v1 σ K := ⟨hr, Sp.of (by decide) (Nat.le_of_ble_eq_true rfl) (b_X12_isPlayer_0 hf) rfl⟩
def F_X12_would (l : Launch) (G : GG) (d : Nat) (v0 : Nat) (v1 : Int32) (σ : Hp) (K : Int32 → Hp → Prop) : Prop :=
  C_X12_clear l G d v0 σ fun σ1 =>
  C_X12_isPlayer l G d v0 v1 σ1 fun r4 σ3 =>
  (r4 = true →
    fN σ3 v0 12 17 fun x5 =>
    gI σ3 x5 15 fun x6 =>
    pF σ3 v0 12 40 (aI x6) fun σ7 =>
    C_X12_standNow l G d v0 σ7 fun r10 σ9 =>
    C_X12_latest l G d v0 σ9 fun r12 σ11 =>
    C_X12_wouldLay l G d v0 v1 r10 r12 σ11 fun r14 σ13 =>
    K r14 σ13) ∧
  (r4 = false →
    C_X12_no l G d v0 1 σ3 fun r16 σ15 =>
    K r16 σ15)
set_option maxRecDepth 100000 in
set_option maxHeartbeats 4000000 in
theorem b_X12_would_0 {l : Launch} {G : GG} {d : Nat} {v0 : Nat} {v1 : Int32} {σ : Hp} {K : Int32 → Hp → Prop} (hf : F_X12_would l G d v0 v1 σ K) : Wd l G (d + 1) "CoinsLaidModel" yX12_would cX12_would 2 (some FieldType.int) 0 [(0, aR (some v0)), (1, aI v1)] [] σ 0 0 (xM (QI K)) := by
  unfold F_X12_would at hf
  refine r_aload_n (j := 0) rfl rfl dX12_would_0 ?_
  try unfold C_X12_clear at hf
  obtain ⟨⟨fs_r2, ha_r2⟩, hf⟩ := hf
  refine r_invVU (t := 12) (As := []) (dz := d) (mz := 0) (sz := 0) rfl wd_7_85 wd_7_87 wd_p_49 cf_X12_clear (Nat.le_refl _) (Nat.zero_le _) (Nat.zero_le _) (cat_ok (Nat.le_of_ble_eq_true rfl)) rfl rfl ha_r2 dX12_would_1 hf (fun σ1 hk => ?_)
  replace hf := hk
  clear hk
  refine r_aload_n (j := 0) rfl rfl dX12_would_4 ?_
  refine r_iload_n (j := 1) rfl rfl dX12_would_5 ?_
  try unfold C_X12_isPlayer at hf
  obtain ⟨⟨fs_r4, ha_r4⟩, hf⟩ := hf
  refine r_invVZ (t := 12) (As := [aI v1]) (dz := d) (mz := 0) (sz := 0) rfl wd_8_221 wd_8_223 wd_p_98 cf_X12_isPlayer (Nat.le_refl _) (Nat.zero_le _) (Nat.zero_le _) (cat_ok (Nat.le_of_ble_eq_true rfl)) rfl rfl ha_r4 dX12_would_6 hf (fun r4 σ3 hk => ?_)
  replace hf := hk
  clear hk
  refine r_ifneZ (b := r4) (tgt := 18) (by decide) dX12_would_9 (fun hc => ?_) (fun hc => ?_)
  · replace hf := hf.1 hc
    refine r_aload_n (j := 0) rfl rfl dX12_would_18 ?_
    refine r_aload_n (j := 0) rfl rfl dX12_would_19 ?_
    obtain ⟨fs_x5, x5, ha_x5, hv_x5, hf⟩ := hf
    refine r_get (Cn := RX12) (Tt := TX12) (N := 42) (n := 17) rfl uw_X12 (Nat.le_of_ble_eq_true rfl) wd_6_203 ha_x5 hv_x5 dX12_would_20 ?_
    refine r_bipush (v := 15) (by decide) dX12_would_23 ?_
    obtain ⟨N_x6, f_x6, ha_x6, hi_x6, hf⟩ := hf
    refine r_iald ha_x6 hi_x6 dX12_would_25 ?_
    generalize f_x6 (15 : Int32).toNatClampNeg = x6 at hf ⊢
    obtain ⟨fs_x8, ha_x8, hf⟩ := hf
    generalize hσ7 : hset σ3 v0 (.inl (12, fs_x8.set 40 (aI x6))) = σ7 at hf
    refine r_put (Cn := RX12) (Tt := TX12) (N := 42) (n := 40) (v := aI x6) rfl uw_X12 (Nat.le_of_ble_eq_true rfl) wd_6_226 ha_x8 (ty0 := tyX12) tyX12_ok nmX12 rfl (fo_I x6) dX12_would_26 ?_
    rw [hσ7]
    refine r_aload_n (j := 0) rfl rfl dX12_would_29 ?_
    refine r_iload_n (j := 1) rfl rfl dX12_would_30 ?_
    refine r_aload_n (j := 0) rfl rfl dX12_would_31 ?_
    try unfold C_X12_standNow at hf
    obtain ⟨⟨fs_r10, ha_r10⟩, hf⟩ := hf
    refine r_invVI (t := 12) (As := []) (dz := d) (mz := 0) (sz := 0) rfl wd_8_26 wd_8_28 wd_p_77 cf_X12_standNow (Nat.le_refl _) (Nat.zero_le _) (Nat.zero_le _) (cat_ok (Nat.le_of_ble_eq_true rfl)) rfl rfl ha_r10 dX12_would_32 hf (fun r10 σ9 hk => ?_)
    replace hf := hk
    clear hk
    refine r_aload_n (j := 0) rfl rfl dX12_would_35 ?_
    try unfold C_X12_latest at hf
    obtain ⟨⟨fs_r12, ha_r12⟩, hf⟩ := hf
    refine r_invVI (t := 12) (As := []) (dz := d) (mz := 0) (sz := 0) rfl wd_8_225 wd_8_227 wd_p_99 cf_X12_latest (Nat.le_refl _) (Nat.zero_le _) (Nat.zero_le _) (cat_ok (Nat.le_of_ble_eq_true rfl)) rfl rfl ha_r12 dX12_would_36 hf (fun r12 σ11 hk => ?_)
    replace hf := hk
    clear hk
    try unfold C_X12_wouldLay at hf
    obtain ⟨⟨fs_r14, ha_r14⟩, hf⟩ := hf
    refine r_invVI (t := 12) (As := [aI v1, aI r10, aI r12]) (dz := d) (mz := 0) (sz := 0) rfl wd_8_229 wd_8_231 wd_p_100 cf_X12_wouldLay (Nat.le_refl _) (Nat.zero_le _) (Nat.zero_le _) (cat_ok (Nat.le_of_ble_eq_true rfl)) rfl rfl ha_r14 dX12_would_39 hf (fun r14 σ13 hk => ?_)
    replace hf := hk
    clear hk
    exact r_ireturn rfl dX12_would_42 rfl ⟨_, rfl, hf⟩
  · replace hf := hf.2 hc
    refine r_aload_n (j := 0) rfl rfl dX12_would_12 ?_
    refine r_iconst (v := 1) (by decide) dX12_would_13 ?_
    try unfold C_X12_no at hf
    obtain ⟨⟨fs_r16, ha_r16⟩, hf⟩ := hf
    refine r_invVI (t := 12) (As := [aI 1]) (dz := d) (mz := 0) (sz := 0) rfl wd_7_92 wd_7_94 wd_p_50 cf_X12_no (Nat.le_refl _) (Nat.zero_le _) (Nat.zero_le _) (cat_ok (Nat.le_of_ble_eq_true rfl)) rfl rfl ha_r16 dX12_would_14 hf (fun r16 σ15 hk => ?_)
    replace hf := hk
    clear hk
    exact r_ireturn rfl dX12_would_17 rfl ⟨_, rfl, hf⟩
theorem m_X12_would {l : Launch} {G : GG} {d : Nat} {v0 : Nat} {v1 : Int32} {σ : Hp} {K : Int32 → Hp → Prop} (hr : rv σ v0 12) (hf : F_X12_would l G d v0 v1 σ K) : C_X12_would l G (d + 1) v0 v1 σ K := ⟨hr, Sp.of (by decide) (Nat.le_of_ble_eq_true rfl) (b_X12_would_0 hf) rfl⟩
def F_X12_winner_50 (l : Launch) (G : GG) (d : Nat) (X27 : Nat → Int32 → Int32 → Int32 → Int32 → Hp → Prop) (v0 : Nat) (v1 : Int32) (v2 : Int32) (v3 : Int32) (v4 : Int32) (s0 : Nat) (s1 : Int32) (σ : Hp) (K : Int32 → Hp → Prop) : Prop :=
  C_X12_wouldLay l G d s0 s1 v3 v4 σ fun r2 σ1 =>
  C_X12_behind l G d v0 v3 r2 σ1 fun r4 σ3 =>
  fI σ3 v0 12 41 fun x5 =>
  pF σ3 v0 12 41 (aI (x5 + 1)) fun σ6 =>
  X27 v0 v1 v2 r4 r2 σ6
set_option maxRecDepth 100000 in
set_option maxHeartbeats 4000000 in
theorem b_X12_winner_50 {l : Launch} {G : GG} {d : Nat} {X27 : Nat → Int32 → Int32 → Int32 → Int32 → Hp → Prop} {v0 : Nat} {v1 : Int32} {v2 : Int32} {v3 : Int32} {v4 : Int32} {s0 : Nat} {s1 : Int32} {σ : Hp} {K : Int32 → Hp → Prop} (hX27 : ∀ v0 v1 v2 v3 v4 σ, X27 v0 v1 v2 v3 v4 σ → Wd l G (d + 1) "CoinsLaidModel" yX12_winner cX12_winner 6 (some FieldType.int) 27 [(0, aR (some v0)), (1, aI v1), (2, aI v2), (3, aI v3), (4, aI v4)] [] σ 0 0 (xM (QI K))) (hf : F_X12_winner_50 l G d X27 v0 v1 v2 v3 v4 s0 s1 σ K) : Wd l G (d + 1) "CoinsLaidModel" yX12_winner cX12_winner 6 (some FieldType.int) 50 [(0, aR (some v0)), (1, aI v1), (2, aI v2), (3, aI v3), (4, aI v4)] [aI s1, aR (some s0)] σ 0 0 (xM (QI K)) := by
  unfold F_X12_winner_50 at hf
  refine r_iload_n (j := 3) rfl rfl dX12_winner_50 ?_
  refine r_iload (j := 4) rfl dX12_winner_51 ?_
  try unfold C_X12_wouldLay at hf
  obtain ⟨⟨fs_r2, ha_r2⟩, hf⟩ := hf
  refine r_invVI (t := 12) (As := [aI s1, aI v3, aI v4]) (dz := d) (mz := 0) (sz := 0) rfl wd_8_229 wd_8_231 wd_p_100 cf_X12_wouldLay (Nat.le_refl _) (Nat.zero_le _) (Nat.zero_le _) (cat_ok (Nat.le_of_ble_eq_true rfl)) rfl rfl ha_r2 dX12_winner_53 hf (fun r2 σ1 hk => ?_)
  replace hf := hk
  clear hk
  refine r_istore (L' := [(4, aI r2), (0, aR (some v0)), (1, aI v1), (2, aI v2), (3, aI v3)]) rfl (Nat.le_of_ble_eq_true rfl) dX12_winner_56 ?_
  refine r_aload_n (j := 1) rfl rfl dX12_winner_58 ?_
  refine r_iload_n (j := 4) rfl rfl dX12_winner_59 ?_
  refine r_iload (j := 0) rfl dX12_winner_60 ?_
  try unfold C_X12_behind at hf
  obtain ⟨⟨fs_r4, ha_r4⟩, hf⟩ := hf
  refine r_invVI (t := 12) (As := [aI v3, aI r2]) (dz := d) (mz := 0) (sz := 0) rfl wd_8_100 wd_8_102 wd_p_85 cf_X12_behind (Nat.le_refl _) (Nat.zero_le _) (Nat.zero_le _) (cat_ok (Nat.le_of_ble_eq_true rfl)) rfl rfl ha_r4 dX12_winner_62 hf (fun r4 σ3 hk => ?_)
  replace hf := hk
  clear hk
  refine r_istore_n (L' := [(3, aI r4), (4, aI r2), (0, aR (some v0)), (1, aI v1), (2, aI v2)]) rfl rfl (Nat.le_of_ble_eq_true rfl) dX12_winner_65 ?_
  refine r_aload_n (j := 2) rfl rfl dX12_winner_66 ?_
  refine r_dup rfl dX12_winner_67 ?_
  obtain ⟨fs_x5, x5, ha_x5, hv_x5, hf⟩ := hf
  refine r_get (Cn := RX12) (Tt := TX12) (N := 42) (n := 41) rfl uw_X12 (Nat.le_of_ble_eq_true rfl) wd_6_227 ha_x5 hv_x5 dX12_winner_68 ?_
  refine r_iconst (v := 1) (by decide) dX12_winner_71 ?_
  refine r_iadd (x := x5) (y := 1) dX12_winner_72 ?_
  obtain ⟨fs_x7, ha_x7, hf⟩ := hf
  generalize hσ6 : hset σ3 v0 (.inl (12, fs_x7.set 41 (aI (x5 + 1)))) = σ6 at hf
  refine r_put (Cn := RX12) (Tt := TX12) (N := 42) (n := 41) (v := aI (x5 + 1)) rfl uw_X12 (Nat.le_of_ble_eq_true rfl) wd_6_227 ha_x7 (ty0 := tyX12) tyX12_ok nmX12 rfl (fo_I (x5 + 1)) dX12_winner_73 ?_
  rw [hσ6]
  refine r_goto (tgt := 27) (by decide) dX12_winner_76 ?_
  exact r_sub [2, 3, 4, 0, 1] rfl (hX27 _ _ _ _ _ _ hf)
def F_X12_winner_106 (l : Launch) (G : GG) (d : Nat) (s0 : Int32) (σ : Hp) (K : Int32 → Hp → Prop) : Prop :=
  K s0 σ
set_option maxRecDepth 100000 in
set_option maxHeartbeats 4000000 in
theorem b_X12_winner_106 {l : Launch} {G : GG} {d : Nat} {s0 : Int32} {σ : Hp} {K : Int32 → Hp → Prop} (hf : F_X12_winner_106 l G d s0 σ K) : Wd l G (d + 1) "CoinsLaidModel" yX12_winner cX12_winner 6 (some FieldType.int) 106 [] [aI s0] σ 0 0 (xM (QI K)) := by
  unfold F_X12_winner_106 at hf
  exact r_ireturn rfl dX12_winner_106 rfl ⟨_, rfl, hf⟩
def F_X12_winner_27 (l : Launch) (G : GG) (d : Nat) (X27 : Nat → Int32 → Int32 → Int32 → Int32 → Hp → Prop) (v0 : Nat) (v1 : Int32) (v2 : Int32) (v3 : Int32) (v4 : Int32) (σ : Hp) (K : Int32 → Hp → Prop) : Prop :=
  C_X12_isOver l G d v0 v3 σ fun r9 σ8 =>
  (r9 = true →
    fI σ8 v0 12 41 fun x10 =>
    ¬ (2 : Int32) = 0 ∧
    fN σ8 v0 12 15 fun x11 =>
    gI σ8 x11 1 fun x12 =>
    (¬ (x12 : Int32) = (1 : Int32) →
      F_X12_winner_106 l G d (1 - (x10 - x10 / 2 * 2)) σ8 K) ∧
    ((x12 : Int32) = (1 : Int32) →
      F_X12_winner_106 l G d (x10 - x10 / 2 * 2) σ8 K)) ∧
  (r9 = false →
    fI σ8 v0 12 41 fun x13 =>
    ¬ (2 : Int32) = 0 ∧
    (¬ ((x13 - x13 / 2 * 2) : Int32) = 0 →
      F_X12_winner_50 l G d X27 v0 v1 v2 v3 v4 v0 v2 σ8 K) ∧
    (((x13 - x13 / 2 * 2) : Int32) = 0 →
      F_X12_winner_50 l G d X27 v0 v1 v2 v3 v4 v0 v1 σ8 K))
set_option maxRecDepth 100000 in
set_option maxHeartbeats 4000000 in
theorem b_X12_winner_27 {l : Launch} {G : GG} {d : Nat} {X27 : Nat → Int32 → Int32 → Int32 → Int32 → Hp → Prop} {v0 : Nat} {v1 : Int32} {v2 : Int32} {v3 : Int32} {v4 : Int32} {σ : Hp} {K : Int32 → Hp → Prop} (hX27 : ∀ v0 v1 v2 v3 v4 σ, X27 v0 v1 v2 v3 v4 σ → Wd l G (d + 1) "CoinsLaidModel" yX12_winner cX12_winner 6 (some FieldType.int) 27 [(0, aR (some v0)), (1, aI v1), (2, aI v2), (3, aI v3), (4, aI v4)] [] σ 0 0 (xM (QI K))) (hf : F_X12_winner_27 l G d X27 v0 v1 v2 v3 v4 σ K) : Wd l G (d + 1) "CoinsLaidModel" yX12_winner cX12_winner 6 (some FieldType.int) 27 [(0, aR (some v0)), (1, aI v1), (2, aI v2), (3, aI v3), (4, aI v4)] [] σ 0 0 (xM (QI K)) := by
  unfold F_X12_winner_27 at hf
  refine r_aload_n (j := 0) rfl rfl dX12_winner_27 ?_
  refine r_iload_n (j := 3) rfl rfl dX12_winner_28 ?_
  try unfold C_X12_isOver at hf
  obtain ⟨⟨fs_r9, ha_r9⟩, hf⟩ := hf
  refine r_invVZ (t := 12) (As := [aI v3]) (dz := d) (mz := 0) (sz := 0) rfl wd_8_88 wd_8_90 wd_p_83 cf_X12_isOver (Nat.le_refl _) (Nat.zero_le _) (Nat.zero_le _) (cat_ok (Nat.le_of_ble_eq_true rfl)) rfl rfl ha_r9 dX12_winner_29 hf (fun r9 σ8 hk => ?_)
  replace hf := hk
  clear hk
  refine r_ifneZ (b := r9) (tgt := 79) (by decide) dX12_winner_32 (fun hc => ?_) (fun hc => ?_)
  · replace hf := hf.1 hc
    refine r_aload_n (j := 0) rfl rfl dX12_winner_79 ?_
    obtain ⟨fs_x10, x10, ha_x10, hv_x10, hf⟩ := hf
    refine r_get (Cn := RX12) (Tt := TX12) (N := 42) (n := 41) rfl uw_X12 (Nat.le_of_ble_eq_true rfl) wd_6_227 ha_x10 hv_x10 dX12_winner_80 ?_
    refine r_iconst (v := 2) (by decide) dX12_winner_83 ?_
    obtain ⟨hne, hf⟩ := hf
    refine r_irem hne dX12_winner_84 ?_
    refine r_istore (L' := [(5, aI (x10 - x10 / 2 * 2)), (0, aR (some v0)), (1, aI v1), (2, aI v2), (3, aI v3), (4, aI v4)]) rfl (Nat.le_of_ble_eq_true rfl) dX12_winner_85 ?_
    refine r_aload_n (j := 1) rfl rfl dX12_winner_87 ?_
    obtain ⟨fs_x11, x11, ha_x11, hv_x11, hf⟩ := hf
    refine r_get (Cn := RX12) (Tt := TX12) (N := 42) (n := 15) rfl uw_X12 (Nat.le_of_ble_eq_true rfl) wd_6_201 ha_x11 hv_x11 dX12_winner_88 ?_
    refine r_iconst (v := 1) (by decide) dX12_winner_91 ?_
    obtain ⟨N_x12, f_x12, ha_x12, hi_x12, hf⟩ := hf
    refine r_iald ha_x12 hi_x12 dX12_winner_92 ?_
    generalize f_x12 (1 : Int32).toNatClampNeg = x12 at hf ⊢
    refine r_iconst (v := 1) (by decide) dX12_winner_93 ?_
    refine r_icmpne (x := x12) (y := 1) (tgt := 102) (by decide) dX12_winner_94 (fun hc => ?_) (fun hc => ?_)
    · replace hf := hf.1 hc
      refine r_iconst (v := 1) (by decide) dX12_winner_102 ?_
      refine r_iload (j := 0) rfl dX12_winner_103 ?_
      refine r_isub (x := 1) (y := (x10 - x10 / 2 * 2)) dX12_winner_105 ?_
      exact r_sub [] rfl (b_X12_winner_106 hf)
    · replace hf := hf.2 hc
      refine r_iload (j := 0) rfl dX12_winner_97 ?_
      refine r_goto (tgt := 106) (by decide) dX12_winner_99 ?_
      exact r_sub [] rfl (b_X12_winner_106 hf)
  · replace hf := hf.2 hc
    refine r_aload_n (j := 0) rfl rfl dX12_winner_35 ?_
    refine r_aload_n (j := 0) rfl rfl dX12_winner_36 ?_
    obtain ⟨fs_x13, x13, ha_x13, hv_x13, hf⟩ := hf
    refine r_get (Cn := RX12) (Tt := TX12) (N := 42) (n := 41) rfl uw_X12 (Nat.le_of_ble_eq_true rfl) wd_6_227 ha_x13 hv_x13 dX12_winner_37 ?_
    refine r_iconst (v := 2) (by decide) dX12_winner_40 ?_
    obtain ⟨hne, hf⟩ := hf
    refine r_irem hne dX12_winner_41 ?_
    refine r_ifne (x := (x13 - x13 / 2 * 2)) (tgt := 49) (by decide) dX12_winner_42 (fun hc => ?_) (fun hc => ?_)
    · replace hf := hf.1 hc
      refine r_iload_n (j := 2) rfl rfl dX12_winner_49 ?_
      exact r_sub [0, 1, 2, 3, 4] rfl (b_X12_winner_50 hX27 hf)
    · replace hf := hf.2 hc
      refine r_iload_n (j := 1) rfl rfl dX12_winner_45 ?_
      refine r_goto (tgt := 50) (by decide) dX12_winner_46 ?_
      exact r_sub [0, 1, 2, 3, 4] rfl (b_X12_winner_50 hX27 hf)
def Z_X12_winner_27 (l : Launch) (G : GG) (d : Nat) (K : Int32 → Hp → Prop) : Nat → Nat → Int32 → Int32 → Int32 → Int32 → Hp → Prop
  | 0 => fun _ _ _ _ _ _ => False
  | n + 1 => fun v0 v1 v2 v3 v4 σ => F_X12_winner_27 l G d (Z_X12_winner_27 l G d K n) v0 v1 v2 v3 v4 σ K
theorem z_X12_winner_27 {l : Launch} {G : GG} {d : Nat} {K : Int32 → Hp → Prop} : ∀ (n : Nat) v0 v1 v2 v3 v4 σ, Z_X12_winner_27 l G d K n v0 v1 v2 v3 v4 σ → Wd l G (d + 1) "CoinsLaidModel" yX12_winner cX12_winner 6 (some FieldType.int) 27 [(0, aR (some v0)), (1, aI v1), (2, aI v2), (3, aI v3), (4, aI v4)] [] σ 0 0 (xM (QI K)) := by
  intro n
  induction n with
  | zero => intro v0 v1 v2 v3 v4 σ hf; exact hf.elim
  | succ n ih => intro v0 v1 v2 v3 v4 σ hf; exact b_X12_winner_27 ih hf
def F_X12_winner (l : Launch) (G : GG) (d : Nat) (v0 : Nat) (v1 : Int32) (v2 : Int32) (σ : Hp) (K : Int32 → Hp → Prop) : Prop :=
  C_X12_standNow l G d v0 σ fun r15 σ14 =>
  C_X12_latest l G d v0 σ14 fun r17 σ16 =>
  fN σ16 v0 12 17 fun x18 =>
  gI σ16 x18 15 fun x19 =>
  pF σ16 v0 12 40 (aI x19) fun σ20 =>
  pF σ20 v0 12 41 (aI 0) fun σ22 =>
  ∃ n, Z_X12_winner_27 l G d K n v0 v1 v2 r15 r17 σ22
set_option maxRecDepth 100000 in
set_option maxHeartbeats 4000000 in
theorem b_X12_winner_0 {l : Launch} {G : GG} {d : Nat} {v0 : Nat} {v1 : Int32} {v2 : Int32} {σ : Hp} {K : Int32 → Hp → Prop} (hf : F_X12_winner l G d v0 v1 v2 σ K) : Wd l G (d + 1) "CoinsLaidModel" yX12_winner cX12_winner 6 (some FieldType.int) 0 [(0, aR (some v0)), (1, aI v1), (2, aI v2)] [] σ 0 0 (xM (QI K)) := by
  unfold F_X12_winner at hf
  refine r_aload_n (j := 0) rfl rfl dX12_winner_0 ?_
  try unfold C_X12_standNow at hf
  obtain ⟨⟨fs_r15, ha_r15⟩, hf⟩ := hf
  refine r_invVI (t := 12) (As := []) (dz := d) (mz := 0) (sz := 0) rfl wd_8_26 wd_8_28 wd_p_77 cf_X12_standNow (Nat.le_refl _) (Nat.zero_le _) (Nat.zero_le _) (cat_ok (Nat.le_of_ble_eq_true rfl)) rfl rfl ha_r15 dX12_winner_1 hf (fun r15 σ14 hk => ?_)
  replace hf := hk
  clear hk
  refine r_istore_n (L' := [(3, aI r15), (0, aR (some v0)), (1, aI v1), (2, aI v2)]) rfl rfl (Nat.le_of_ble_eq_true rfl) dX12_winner_4 ?_
  refine r_aload_n (j := 1) rfl rfl dX12_winner_5 ?_
  try unfold C_X12_latest at hf
  obtain ⟨⟨fs_r17, ha_r17⟩, hf⟩ := hf
  refine r_invVI (t := 12) (As := []) (dz := d) (mz := 0) (sz := 0) rfl wd_8_225 wd_8_227 wd_p_99 cf_X12_latest (Nat.le_refl _) (Nat.zero_le _) (Nat.zero_le _) (cat_ok (Nat.le_of_ble_eq_true rfl)) rfl rfl ha_r17 dX12_winner_6 hf (fun r17 σ16 hk => ?_)
  replace hf := hk
  clear hk
  refine r_istore (L' := [(4, aI r17), (3, aI r15), (0, aR (some v0)), (1, aI v1), (2, aI v2)]) rfl (Nat.le_of_ble_eq_true rfl) dX12_winner_9 ?_
  refine r_aload_n (j := 2) rfl rfl dX12_winner_11 ?_
  refine r_aload_n (j := 2) rfl rfl dX12_winner_12 ?_
  obtain ⟨fs_x18, x18, ha_x18, hv_x18, hf⟩ := hf
  refine r_get (Cn := RX12) (Tt := TX12) (N := 42) (n := 17) rfl uw_X12 (Nat.le_of_ble_eq_true rfl) wd_6_203 ha_x18 hv_x18 dX12_winner_13 ?_
  refine r_bipush (v := 15) (by decide) dX12_winner_16 ?_
  obtain ⟨N_x19, f_x19, ha_x19, hi_x19, hf⟩ := hf
  refine r_iald ha_x19 hi_x19 dX12_winner_18 ?_
  generalize f_x19 (15 : Int32).toNatClampNeg = x19 at hf ⊢
  obtain ⟨fs_x21, ha_x21, hf⟩ := hf
  generalize hσ20 : hset σ16 v0 (.inl (12, fs_x21.set 40 (aI x19))) = σ20 at hf
  refine r_put (Cn := RX12) (Tt := TX12) (N := 42) (n := 40) (v := aI x19) rfl uw_X12 (Nat.le_of_ble_eq_true rfl) wd_6_226 ha_x21 (ty0 := tyX12) tyX12_ok nmX12 rfl (fo_I x19) dX12_winner_19 ?_
  rw [hσ20]
  refine r_aload_n (j := 2) rfl rfl dX12_winner_22 ?_
  refine r_iconst (v := 0) (by decide) dX12_winner_23 ?_
  obtain ⟨fs_x23, ha_x23, hf⟩ := hf
  generalize hσ22 : hset σ20 v0 (.inl (12, fs_x23.set 41 (aI 0))) = σ22 at hf
  refine r_put (Cn := RX12) (Tt := TX12) (N := 42) (n := 41) (v := aI 0) rfl uw_X12 (Nat.le_of_ble_eq_true rfl) wd_6_227 ha_x23 (ty0 := tyX12) tyX12_ok nmX12 rfl (fo_I 0) dX12_winner_24 ?_
  rw [hσ22]
  obtain ⟨n, hf⟩ := hf
  exact r_sub [2, 3, 4, 1, 0] rfl (z_X12_winner_27 n _ _ _ _ _ _ hf)
theorem m_X12_winner {l : Launch} {G : GG} {d : Nat} {v0 : Nat} {v1 : Int32} {v2 : Int32} {σ : Hp} {K : Int32 → Hp → Prop} (hr : rv σ v0 12) (hf : F_X12_winner l G d v0 v1 v2 σ K) : C_X12_winner l G (d + 1) v0 v1 v2 σ K := ⟨hr, Sp.of (by decide) (Nat.le_of_ble_eq_true rfl) (b_X12_winner_0 hf) rfl⟩
def F_X12_match_34 (l : Launch) (G : GG) (d : Nat) (s0 : Int32) (σ : Hp) (K : Int32 → Hp → Prop) : Prop :=
  K s0 σ
set_option maxRecDepth 100000 in
set_option maxHeartbeats 4000000 in
theorem b_X12_match_34 {l : Launch} {G : GG} {d : Nat} {s0 : Int32} {σ : Hp} {K : Int32 → Hp → Prop} (hf : F_X12_match_34 l G d s0 σ K) : Wd l G (d + 1) "CoinsLaidModel" yX12_match cX12_match 3 (some FieldType.int) 34 [] [aI s0] σ 0 0 (xM (QI K)) := by
  unfold F_X12_match_34 at hf
  exact r_ireturn rfl dX12_match_34 rfl ⟨_, rfl, hf⟩
def F_X12_match_29 (l : Launch) (G : GG) (d : Nat) (v0 : Nat) (σ : Hp) (K : Int32 → Hp → Prop) : Prop :=
  C_X12_no l G d v0 1 σ fun r2 σ1 =>
  F_X12_match_34 l G d r2 σ1 K
set_option maxRecDepth 100000 in
set_option maxHeartbeats 4000000 in
theorem b_X12_match_29 {l : Launch} {G : GG} {d : Nat} {v0 : Nat} {σ : Hp} {K : Int32 → Hp → Prop} (hf : F_X12_match_29 l G d v0 σ K) : Wd l G (d + 1) "CoinsLaidModel" yX12_match cX12_match 3 (some FieldType.int) 29 [(0, aR (some v0))] [] σ 0 0 (xM (QI K)) := by
  unfold F_X12_match_29 at hf
  refine r_aload_n (j := 0) rfl rfl dX12_match_29 ?_
  refine r_iconst (v := 1) (by decide) dX12_match_30 ?_
  try unfold C_X12_no at hf
  obtain ⟨⟨fs_r2, ha_r2⟩, hf⟩ := hf
  refine r_invVI (t := 12) (As := [aI 1]) (dz := d) (mz := 0) (sz := 0) rfl wd_7_92 wd_7_94 wd_p_50 cf_X12_no (Nat.le_refl _) (Nat.zero_le _) (Nat.zero_le _) (cat_ok (Nat.le_of_ble_eq_true rfl)) rfl rfl ha_r2 dX12_match_31 hf (fun r2 σ1 hk => ?_)
  replace hf := hk
  clear hk
  exact r_sub [] rfl (b_X12_match_34 hf)
def F_X12_match (l : Launch) (G : GG) (d : Nat) (v0 : Nat) (v1 : Int32) (v2 : Int32) (σ : Hp) (K : Int32 → Hp → Prop) : Prop :=
  C_X12_clear l G d v0 σ fun σ3 =>
  C_X12_isPlayer l G d v0 v1 σ3 fun r6 σ5 =>
  (r6 = false →
    F_X12_match_29 l G d v0 σ5 K) ∧
  (r6 = true →
    C_X12_isPlayer l G d v0 v2 σ5 fun r8 σ7 =>
    (r8 = false →
      F_X12_match_29 l G d v0 σ7 K) ∧
    (r8 = true →
      C_X12_winner l G d v0 v1 v2 σ7 fun r10 σ9 =>
      F_X12_match_34 l G d r10 σ9 K))
set_option maxRecDepth 100000 in
set_option maxHeartbeats 4000000 in
theorem b_X12_match_0 {l : Launch} {G : GG} {d : Nat} {v0 : Nat} {v1 : Int32} {v2 : Int32} {σ : Hp} {K : Int32 → Hp → Prop} (hf : F_X12_match l G d v0 v1 v2 σ K) : Wd l G (d + 1) "CoinsLaidModel" yX12_match cX12_match 3 (some FieldType.int) 0 [(0, aR (some v0)), (1, aI v1), (2, aI v2)] [] σ 0 0 (xM (QI K)) := by
  unfold F_X12_match at hf
  refine r_aload_n (j := 0) rfl rfl dX12_match_0 ?_
  try unfold C_X12_clear at hf
  obtain ⟨⟨fs_r4, ha_r4⟩, hf⟩ := hf
  refine r_invVU (t := 12) (As := []) (dz := d) (mz := 0) (sz := 0) rfl wd_7_85 wd_7_87 wd_p_49 cf_X12_clear (Nat.le_refl _) (Nat.zero_le _) (Nat.zero_le _) (cat_ok (Nat.le_of_ble_eq_true rfl)) rfl rfl ha_r4 dX12_match_1 hf (fun σ3 hk => ?_)
  replace hf := hk
  clear hk
  refine r_aload_n (j := 0) rfl rfl dX12_match_4 ?_
  refine r_iload_n (j := 1) rfl rfl dX12_match_5 ?_
  try unfold C_X12_isPlayer at hf
  obtain ⟨⟨fs_r6, ha_r6⟩, hf⟩ := hf
  refine r_invVZ (t := 12) (As := [aI v1]) (dz := d) (mz := 0) (sz := 0) rfl wd_8_221 wd_8_223 wd_p_98 cf_X12_isPlayer (Nat.le_refl _) (Nat.zero_le _) (Nat.zero_le _) (cat_ok (Nat.le_of_ble_eq_true rfl)) rfl rfl ha_r6 dX12_match_6 hf (fun r6 σ5 hk => ?_)
  replace hf := hk
  clear hk
  refine r_ifeqZ (b := r6) (tgt := 29) (by decide) dX12_match_9 (fun hc => ?_) (fun hc => ?_)
  · replace hf := hf.1 hc
    exact r_sub [0] rfl (b_X12_match_29 hf)
  · replace hf := hf.2 hc
    refine r_aload_n (j := 0) rfl rfl dX12_match_12 ?_
    refine r_iload_n (j := 2) rfl rfl dX12_match_13 ?_
    try unfold C_X12_isPlayer at hf
    obtain ⟨⟨fs_r8, ha_r8⟩, hf⟩ := hf
    refine r_invVZ (t := 12) (As := [aI v2]) (dz := d) (mz := 0) (sz := 0) rfl wd_8_221 wd_8_223 wd_p_98 cf_X12_isPlayer (Nat.le_refl _) (Nat.zero_le _) (Nat.zero_le _) (cat_ok (Nat.le_of_ble_eq_true rfl)) rfl rfl ha_r8 dX12_match_14 hf (fun r8 σ7 hk => ?_)
    replace hf := hk
    clear hk
    refine r_ifeqZ (b := r8) (tgt := 29) (by decide) dX12_match_17 (fun hc => ?_) (fun hc => ?_)
    · replace hf := hf.1 hc
      exact r_sub [0] rfl (b_X12_match_29 hf)
    · replace hf := hf.2 hc
      refine r_aload_n (j := 0) rfl rfl dX12_match_20 ?_
      refine r_iload_n (j := 1) rfl rfl dX12_match_21 ?_
      refine r_iload_n (j := 2) rfl rfl dX12_match_22 ?_
      try unfold C_X12_winner at hf
      obtain ⟨⟨fs_r10, ha_r10⟩, hf⟩ := hf
      refine r_invVI (t := 12) (As := [aI v1, aI v2]) (dz := d) (mz := 0) (sz := 0) rfl wd_8_238 wd_9_0 wd_p_101 cf_X12_winner (Nat.le_refl _) (Nat.zero_le _) (Nat.zero_le _) (cat_ok (Nat.le_of_ble_eq_true rfl)) rfl rfl ha_r10 dX12_match_23 hf (fun r10 σ9 hk => ?_)
      replace hf := hk
      clear hk
      refine r_goto (tgt := 34) (by decide) dX12_match_26 ?_
      exact r_sub [] rfl (b_X12_match_34 hf)
theorem m_X12_match {l : Launch} {G : GG} {d : Nat} {v0 : Nat} {v1 : Int32} {v2 : Int32} {σ : Hp} {K : Int32 → Hp → Prop} (hr : rv σ v0 12) (hf : F_X12_match l G d v0 v1 v2 σ K) : C_X12_match l G (d + 1) v0 v1 v2 σ K := ⟨hr, Sp.of (by decide) (Nat.le_of_ble_eq_true rfl) (b_X12_match_0 hf) rfl⟩
def F_X12_beats_44 (l : Launch) (G : GG) (d : Nat) (X22 : Nat → Int32 → Int32 → Int32 → Hp → Prop) (v0 : Nat) (v1 : Int32) (v3 : Int32) (s0 : Int32) (s1 : Int32) (σ : Hp) (K : Int32 → Hp → Prop) : Prop :=
  X22 v0 v1 (s0 ||| s1) (v3 + 1) σ
set_option maxRecDepth 100000 in
set_option maxHeartbeats 4000000 in
theorem b_X12_beats_44 {l : Launch} {G : GG} {d : Nat} {X22 : Nat → Int32 → Int32 → Int32 → Hp → Prop} {v0 : Nat} {v1 : Int32} {v3 : Int32} {s0 : Int32} {s1 : Int32} {σ : Hp} {K : Int32 → Hp → Prop} (hX22 : ∀ v0 v1 v2 v3 σ, X22 v0 v1 v2 v3 σ → Wd l G (d + 1) "CoinsLaidModel" yX12_beats cX12_beats 4 (some FieldType.int) 22 [(0, aR (some v0)), (1, aI v1), (2, aI v2), (3, aI v3)] [] σ 0 0 (xM (QI K))) (hf : F_X12_beats_44 l G d X22 v0 v1 v3 s0 s1 σ K) : Wd l G (d + 1) "CoinsLaidModel" yX12_beats cX12_beats 4 (some FieldType.int) 44 [(0, aR (some v0)), (1, aI v1), (3, aI v3)] [aI s1, aI s0] σ 0 0 (xM (QI K)) := by
  unfold F_X12_beats_44 at hf
  refine r_ior (x := s0) (y := s1) dX12_beats_44 ?_
  refine r_istore_n (L' := [(2, aI (s0 ||| s1)), (0, aR (some v0)), (1, aI v1), (3, aI v3)]) rfl rfl (Nat.le_of_ble_eq_true rfl) dX12_beats_45 ?_
  refine r_iinc (j := 3) (w := (v3 + 1)) (L' := [(3, aI (v3 + 1)), (2, aI (s0 ||| s1)), (0, aR (some v0)), (1, aI v1)]) rfl (by rfl) rfl (Nat.le_of_ble_eq_true rfl) dX12_beats_46 ?_
  refine r_goto (tgt := 22) (by decide) dX12_beats_49 ?_
  exact r_sub [2, 3, 1, 0] rfl (hX22 _ _ _ _ _ hf)
def F_X12_beats_22 (l : Launch) (G : GG) (d : Nat) (X22 : Nat → Int32 → Int32 → Int32 → Hp → Prop) (v0 : Nat) (v1 : Int32) (v2 : Int32) (v3 : Int32) (σ : Hp) (K : Int32 → Hp → Prop) : Prop :=
  ((5 : Int32) ≤ (v3 : Int32) →
    K v2 σ) ∧
  (¬ (5 : Int32) ≤ (v3 : Int32) →
    C_X12_winner l G d v0 v1 v3 σ fun r2 σ1 =>
    (¬ (r2 : Int32) = 0 →
      F_X12_beats_44 l G d X22 v0 v1 v3 v2 0 σ1 K) ∧
    ((r2 : Int32) = 0 →
      F_X12_beats_44 l G d X22 v0 v1 v3 v2 (1 <<< (v3 &&& 31)) σ1 K))
set_option maxRecDepth 100000 in
set_option maxHeartbeats 4000000 in
theorem b_X12_beats_22 {l : Launch} {G : GG} {d : Nat} {X22 : Nat → Int32 → Int32 → Int32 → Hp → Prop} {v0 : Nat} {v1 : Int32} {v2 : Int32} {v3 : Int32} {σ : Hp} {K : Int32 → Hp → Prop} (hX22 : ∀ v0 v1 v2 v3 σ, X22 v0 v1 v2 v3 σ → Wd l G (d + 1) "CoinsLaidModel" yX12_beats cX12_beats 4 (some FieldType.int) 22 [(0, aR (some v0)), (1, aI v1), (2, aI v2), (3, aI v3)] [] σ 0 0 (xM (QI K))) (hf : F_X12_beats_22 l G d X22 v0 v1 v2 v3 σ K) : Wd l G (d + 1) "CoinsLaidModel" yX12_beats cX12_beats 4 (some FieldType.int) 22 [(0, aR (some v0)), (1, aI v1), (2, aI v2), (3, aI v3)] [] σ 0 0 (xM (QI K)) := by
  unfold F_X12_beats_22 at hf
  refine r_iload_n (j := 3) rfl rfl dX12_beats_22 ?_
  refine r_iconst (v := 5) (by decide) dX12_beats_23 ?_
  refine r_icmpge (x := v3) (y := 5) (tgt := 52) (by decide) dX12_beats_24 (fun hc => ?_) (fun hc => ?_)
  · replace hf := hf.1 hc
    refine r_iload_n (j := 2) rfl rfl dX12_beats_52 ?_
    exact r_ireturn rfl dX12_beats_53 rfl ⟨_, rfl, hf⟩
  · replace hf := hf.2 hc
    refine r_iload_n (j := 2) rfl rfl dX12_beats_27 ?_
    refine r_aload_n (j := 0) rfl rfl dX12_beats_28 ?_
    refine r_iload_n (j := 1) rfl rfl dX12_beats_29 ?_
    refine r_iload_n (j := 3) rfl rfl dX12_beats_30 ?_
    try unfold C_X12_winner at hf
    obtain ⟨⟨fs_r2, ha_r2⟩, hf⟩ := hf
    refine r_invVI (t := 12) (As := [aI v1, aI v3]) (dz := d) (mz := 0) (sz := 0) rfl wd_8_238 wd_9_0 wd_p_101 cf_X12_winner (Nat.le_refl _) (Nat.zero_le _) (Nat.zero_le _) (cat_ok (Nat.le_of_ble_eq_true rfl)) rfl rfl ha_r2 dX12_beats_31 hf (fun r2 σ1 hk => ?_)
    replace hf := hk
    clear hk
    refine r_ifne (x := r2) (tgt := 43) (by decide) dX12_beats_34 (fun hc => ?_) (fun hc => ?_)
    · replace hf := hf.1 hc
      refine r_iconst (v := 0) (by decide) dX12_beats_43 ?_
      exact r_sub [0, 1, 3] rfl (b_X12_beats_44 hX22 hf)
    · replace hf := hf.2 hc
      refine r_iconst (v := 1) (by decide) dX12_beats_37 ?_
      refine r_iload_n (j := 3) rfl rfl dX12_beats_38 ?_
      refine r_ishl (x := 1) (y := v3) dX12_beats_39 ?_
      refine r_goto (tgt := 44) (by decide) dX12_beats_40 ?_
      exact r_sub [0, 1, 3] rfl (b_X12_beats_44 hX22 hf)
def Z_X12_beats_22 (l : Launch) (G : GG) (d : Nat) (K : Int32 → Hp → Prop) : Nat → Nat → Int32 → Int32 → Int32 → Hp → Prop
  | 0 => fun _ _ _ _ _ => False
  | n + 1 => fun v0 v1 v2 v3 σ => F_X12_beats_22 l G d (Z_X12_beats_22 l G d K n) v0 v1 v2 v3 σ K
theorem z_X12_beats_22 {l : Launch} {G : GG} {d : Nat} {K : Int32 → Hp → Prop} : ∀ (n : Nat) v0 v1 v2 v3 σ, Z_X12_beats_22 l G d K n v0 v1 v2 v3 σ → Wd l G (d + 1) "CoinsLaidModel" yX12_beats cX12_beats 4 (some FieldType.int) 22 [(0, aR (some v0)), (1, aI v1), (2, aI v2), (3, aI v3)] [] σ 0 0 (xM (QI K)) := by
  intro n
  induction n with
  | zero => intro v0 v1 v2 v3 σ hf; exact hf.elim
  | succ n ih => intro v0 v1 v2 v3 σ hf; exact b_X12_beats_22 ih hf
def F_X12_beats (l : Launch) (G : GG) (d : Nat) (v0 : Nat) (v1 : Int32) (σ : Hp) (K : Int32 → Hp → Prop) : Prop :=
  C_X12_clear l G d v0 σ fun σ3 =>
  C_X12_isPlayer l G d v0 v1 σ3 fun r6 σ5 =>
  (r6 = true →
    ∃ n, Z_X12_beats_22 l G d K n v0 v1 0 0 σ5) ∧
  (r6 = false →
    C_X12_no l G d v0 1 σ5 fun r8 σ7 =>
    K r8 σ7)
set_option maxRecDepth 100000 in
set_option maxHeartbeats 4000000 in
theorem b_X12_beats_0 {l : Launch} {G : GG} {d : Nat} {v0 : Nat} {v1 : Int32} {σ : Hp} {K : Int32 → Hp → Prop} (hf : F_X12_beats l G d v0 v1 σ K) : Wd l G (d + 1) "CoinsLaidModel" yX12_beats cX12_beats 4 (some FieldType.int) 0 [(0, aR (some v0)), (1, aI v1)] [] σ 0 0 (xM (QI K)) := by
  unfold F_X12_beats at hf
  refine r_aload_n (j := 0) rfl rfl dX12_beats_0 ?_
  try unfold C_X12_clear at hf
  obtain ⟨⟨fs_r4, ha_r4⟩, hf⟩ := hf
  refine r_invVU (t := 12) (As := []) (dz := d) (mz := 0) (sz := 0) rfl wd_7_85 wd_7_87 wd_p_49 cf_X12_clear (Nat.le_refl _) (Nat.zero_le _) (Nat.zero_le _) (cat_ok (Nat.le_of_ble_eq_true rfl)) rfl rfl ha_r4 dX12_beats_1 hf (fun σ3 hk => ?_)
  replace hf := hk
  clear hk
  refine r_aload_n (j := 0) rfl rfl dX12_beats_4 ?_
  refine r_iload_n (j := 1) rfl rfl dX12_beats_5 ?_
  try unfold C_X12_isPlayer at hf
  obtain ⟨⟨fs_r6, ha_r6⟩, hf⟩ := hf
  refine r_invVZ (t := 12) (As := [aI v1]) (dz := d) (mz := 0) (sz := 0) rfl wd_8_221 wd_8_223 wd_p_98 cf_X12_isPlayer (Nat.le_refl _) (Nat.zero_le _) (Nat.zero_le _) (cat_ok (Nat.le_of_ble_eq_true rfl)) rfl rfl ha_r6 dX12_beats_6 hf (fun r6 σ5 hk => ?_)
  replace hf := hk
  clear hk
  refine r_ifneZ (b := r6) (tgt := 18) (by decide) dX12_beats_9 (fun hc => ?_) (fun hc => ?_)
  · replace hf := hf.1 hc
    refine r_iconst (v := 0) (by decide) dX12_beats_18 ?_
    refine r_istore_n (L' := [(2, aI 0), (0, aR (some v0)), (1, aI v1)]) rfl rfl (Nat.le_of_ble_eq_true rfl) dX12_beats_19 ?_
    refine r_iconst (v := 0) (by decide) dX12_beats_20 ?_
    refine r_istore_n (L' := [(3, aI 0), (2, aI 0), (0, aR (some v0)), (1, aI v1)]) rfl rfl (Nat.le_of_ble_eq_true rfl) dX12_beats_21 ?_
    obtain ⟨n, hf⟩ := hf
    exact r_sub [2, 3, 1, 0] rfl (z_X12_beats_22 n _ _ _ _ _ hf)
  · replace hf := hf.2 hc
    refine r_aload_n (j := 0) rfl rfl dX12_beats_12 ?_
    refine r_iconst (v := 1) (by decide) dX12_beats_13 ?_
    try unfold C_X12_no at hf
    obtain ⟨⟨fs_r8, ha_r8⟩, hf⟩ := hf
    refine r_invVI (t := 12) (As := [aI 1]) (dz := d) (mz := 0) (sz := 0) rfl wd_7_92 wd_7_94 wd_p_50 cf_X12_no (Nat.le_refl _) (Nat.zero_le _) (Nat.zero_le _) (cat_ok (Nat.le_of_ble_eq_true rfl)) rfl rfl ha_r8 dX12_beats_14 hf (fun r8 σ7 hk => ?_)
    replace hf := hk
    clear hk
    exact r_ireturn rfl dX12_beats_17 rfl ⟨_, rfl, hf⟩
theorem m_X12_beats {l : Launch} {G : GG} {d : Nat} {v0 : Nat} {v1 : Int32} {σ : Hp} {K : Int32 → Hp → Prop} (hr : rv σ v0 12) (hf : F_X12_beats l G d v0 v1 σ K) : C_X12_beats l G (d + 1) v0 v1 σ K := ⟨hr, Sp.of (by decide) (Nat.le_of_ble_eq_true rfl) (b_X12_beats_0 hf) rfl⟩
def F_X12_matchLong_20 (l : Launch) (G : GG) (d : Nat) (v0 : Nat) (σ : Hp) (K : Int32 → Hp → Prop) : Prop :=
  C_X12_no l G d v0 1 σ fun r2 σ1 =>
  K r2 σ1
set_option maxRecDepth 100000 in
set_option maxHeartbeats 4000000 in
theorem b_X12_matchLong_20 {l : Launch} {G : GG} {d : Nat} {v0 : Nat} {σ : Hp} {K : Int32 → Hp → Prop} (hf : F_X12_matchLong_20 l G d v0 σ K) : Wd l G (d + 1) "CoinsLaidModel" yX12_matchLong cX12_matchLong 3 (some FieldType.int) 20 [(0, aR (some v0))] [] σ 0 0 (xM (QI K)) := by
  unfold F_X12_matchLong_20 at hf
  refine r_aload_n (j := 0) rfl rfl dX12_matchLong_20 ?_
  refine r_iconst (v := 1) (by decide) dX12_matchLong_21 ?_
  try unfold C_X12_no at hf
  obtain ⟨⟨fs_r2, ha_r2⟩, hf⟩ := hf
  refine r_invVI (t := 12) (As := [aI 1]) (dz := d) (mz := 0) (sz := 0) rfl wd_7_92 wd_7_94 wd_p_50 cf_X12_no (Nat.le_refl _) (Nat.zero_le _) (Nat.zero_le _) (cat_ok (Nat.le_of_ble_eq_true rfl)) rfl rfl ha_r2 dX12_matchLong_22 hf (fun r2 σ1 hk => ?_)
  replace hf := hk
  clear hk
  exact r_ireturn rfl dX12_matchLong_25 rfl ⟨_, rfl, hf⟩
def F_X12_matchLong (l : Launch) (G : GG) (d : Nat) (v0 : Nat) (v1 : Int32) (v2 : Int32) (σ : Hp) (K : Int32 → Hp → Prop) : Prop :=
  C_X12_clear l G d v0 σ fun σ3 =>
  C_X12_isPlayer l G d v0 v1 σ3 fun r6 σ5 =>
  (r6 = false →
    F_X12_matchLong_20 l G d v0 σ5 K) ∧
  (r6 = true →
    C_X12_isPlayer l G d v0 v2 σ5 fun r8 σ7 =>
    (r8 = true →
      C_X12_winner l G d v0 v1 v2 σ7 fun r10 σ9 =>
      fI σ9 v0 12 41 fun x11 =>
      K x11 σ9) ∧
    (r8 = false →
      F_X12_matchLong_20 l G d v0 σ7 K))
set_option maxRecDepth 100000 in
set_option maxHeartbeats 4000000 in
theorem b_X12_matchLong_0 {l : Launch} {G : GG} {d : Nat} {v0 : Nat} {v1 : Int32} {v2 : Int32} {σ : Hp} {K : Int32 → Hp → Prop} (hf : F_X12_matchLong l G d v0 v1 v2 σ K) : Wd l G (d + 1) "CoinsLaidModel" yX12_matchLong cX12_matchLong 3 (some FieldType.int) 0 [(0, aR (some v0)), (1, aI v1), (2, aI v2)] [] σ 0 0 (xM (QI K)) := by
  unfold F_X12_matchLong at hf
  refine r_aload_n (j := 0) rfl rfl dX12_matchLong_0 ?_
  try unfold C_X12_clear at hf
  obtain ⟨⟨fs_r4, ha_r4⟩, hf⟩ := hf
  refine r_invVU (t := 12) (As := []) (dz := d) (mz := 0) (sz := 0) rfl wd_7_85 wd_7_87 wd_p_49 cf_X12_clear (Nat.le_refl _) (Nat.zero_le _) (Nat.zero_le _) (cat_ok (Nat.le_of_ble_eq_true rfl)) rfl rfl ha_r4 dX12_matchLong_1 hf (fun σ3 hk => ?_)
  replace hf := hk
  clear hk
  refine r_aload_n (j := 0) rfl rfl dX12_matchLong_4 ?_
  refine r_iload_n (j := 1) rfl rfl dX12_matchLong_5 ?_
  try unfold C_X12_isPlayer at hf
  obtain ⟨⟨fs_r6, ha_r6⟩, hf⟩ := hf
  refine r_invVZ (t := 12) (As := [aI v1]) (dz := d) (mz := 0) (sz := 0) rfl wd_8_221 wd_8_223 wd_p_98 cf_X12_isPlayer (Nat.le_refl _) (Nat.zero_le _) (Nat.zero_le _) (cat_ok (Nat.le_of_ble_eq_true rfl)) rfl rfl ha_r6 dX12_matchLong_6 hf (fun r6 σ5 hk => ?_)
  replace hf := hk
  clear hk
  refine r_ifeqZ (b := r6) (tgt := 20) (by decide) dX12_matchLong_9 (fun hc => ?_) (fun hc => ?_)
  · replace hf := hf.1 hc
    exact r_sub [0] rfl (b_X12_matchLong_20 hf)
  · replace hf := hf.2 hc
    refine r_aload_n (j := 0) rfl rfl dX12_matchLong_12 ?_
    refine r_iload_n (j := 2) rfl rfl dX12_matchLong_13 ?_
    try unfold C_X12_isPlayer at hf
    obtain ⟨⟨fs_r8, ha_r8⟩, hf⟩ := hf
    refine r_invVZ (t := 12) (As := [aI v2]) (dz := d) (mz := 0) (sz := 0) rfl wd_8_221 wd_8_223 wd_p_98 cf_X12_isPlayer (Nat.le_refl _) (Nat.zero_le _) (Nat.zero_le _) (cat_ok (Nat.le_of_ble_eq_true rfl)) rfl rfl ha_r8 dX12_matchLong_14 hf (fun r8 σ7 hk => ?_)
    replace hf := hk
    clear hk
    refine r_ifneZ (b := r8) (tgt := 26) (by decide) dX12_matchLong_17 (fun hc => ?_) (fun hc => ?_)
    · replace hf := hf.1 hc
      refine r_aload_n (j := 0) rfl rfl dX12_matchLong_26 ?_
      refine r_iload_n (j := 1) rfl rfl dX12_matchLong_27 ?_
      refine r_iload_n (j := 2) rfl rfl dX12_matchLong_28 ?_
      try unfold C_X12_winner at hf
      obtain ⟨⟨fs_r10, ha_r10⟩, hf⟩ := hf
      refine r_invVI (t := 12) (As := [aI v1, aI v2]) (dz := d) (mz := 0) (sz := 0) rfl wd_8_238 wd_9_0 wd_p_101 cf_X12_winner (Nat.le_refl _) (Nat.zero_le _) (Nat.zero_le _) (cat_ok (Nat.le_of_ble_eq_true rfl)) rfl rfl ha_r10 dX12_matchLong_29 hf (fun r10 σ9 hk => ?_)
      replace hf := hk
      clear hk
      refine r_pop rfl dX12_matchLong_32 ?_
      refine r_aload_n (j := 0) rfl rfl dX12_matchLong_33 ?_
      obtain ⟨fs_x11, x11, ha_x11, hv_x11, hf⟩ := hf
      refine r_get (Cn := RX12) (Tt := TX12) (N := 42) (n := 41) rfl uw_X12 (Nat.le_of_ble_eq_true rfl) wd_6_227 ha_x11 hv_x11 dX12_matchLong_34 ?_
      exact r_ireturn rfl dX12_matchLong_37 rfl ⟨_, rfl, hf⟩
    · replace hf := hf.2 hc
      exact r_sub [0] rfl (b_X12_matchLong_20 hf)
theorem m_X12_matchLong {l : Launch} {G : GG} {d : Nat} {v0 : Nat} {v1 : Int32} {v2 : Int32} {σ : Hp} {K : Int32 → Hp → Prop} (hr : rv σ v0 12) (hf : F_X12_matchLong l G d v0 v1 v2 σ K) : C_X12_matchLong l G (d + 1) v0 v1 v2 σ K := ⟨hr, Sp.of (by decide) (Nat.le_of_ble_eq_true rfl) (b_X12_matchLong_0 hf) rfl⟩
def F_X12_note_49 (l : Launch) (G : GG) (d : Nat) (v0 : Nat) (σ : Hp) (K : Hp → Prop) : Prop :=
  fN σ v0 12 17 fun x1 =>
  fN σ v0 12 19 fun x2 =>
  fI σ v0 12 21 fun x3 =>
  C_X12_copy l G d x1 0 x2 (16 * x3) 16 σ fun σ4 =>
  fI σ4 v0 12 21 fun x6 =>
  pF σ4 v0 12 21 (aI (x6 + 1)) fun σ7 =>
  K σ7
set_option maxRecDepth 100000 in
set_option maxHeartbeats 4000000 in
theorem b_X12_note_49 {l : Launch} {G : GG} {d : Nat} {v0 : Nat} {σ : Hp} {K : Hp → Prop} (hf : F_X12_note_49 l G d v0 σ K) : Wd l G (d + 1) "CoinsLaidModel" yX12_note cX12_note 2 none 49 [(0, aR (some v0))] [] σ 0 0 (xM (QV K)) := by
  unfold F_X12_note_49 at hf
  refine r_aload_n (j := 0) rfl rfl dX12_note_49 ?_
  obtain ⟨fs_x1, x1, ha_x1, hv_x1, hf⟩ := hf
  refine r_get (Cn := RX12) (Tt := TX12) (N := 42) (n := 17) rfl uw_X12 (Nat.le_of_ble_eq_true rfl) wd_6_203 ha_x1 hv_x1 dX12_note_50 ?_
  refine r_iconst (v := 0) (by decide) dX12_note_53 ?_
  refine r_aload_n (j := 0) rfl rfl dX12_note_54 ?_
  obtain ⟨fs_x2, x2, ha_x2, hv_x2, hf⟩ := hf
  refine r_get (Cn := RX12) (Tt := TX12) (N := 42) (n := 19) rfl uw_X12 (Nat.le_of_ble_eq_true rfl) wd_6_205 ha_x2 hv_x2 dX12_note_55 ?_
  refine r_bipush (v := 16) (by decide) dX12_note_58 ?_
  refine r_aload_n (j := 0) rfl rfl dX12_note_60 ?_
  obtain ⟨fs_x3, x3, ha_x3, hv_x3, hf⟩ := hf
  refine r_get (Cn := RX12) (Tt := TX12) (N := 42) (n := 21) rfl uw_X12 (Nat.le_of_ble_eq_true rfl) wd_6_207 ha_x3 hv_x3 dX12_note_61 ?_
  refine r_imul (x := 16) (y := x3) dX12_note_64 ?_
  refine r_bipush (v := 16) (by decide) dX12_note_65 ?_
  try unfold C_X12_copy at hf
  refine r_invSU (As := [aR (some x1), aI 0, aR (some x2), aI (16 * x3), aI 16]) (dz := d) (mz := 0) (sz := 0) rfl wd_7_230 wd_7_231 cf_X12_copy (Nat.le_refl _) (Nat.zero_le _) (Nat.zero_le _) (cat_ok (Nat.le_of_ble_eq_true rfl)) dX12_note_67 hf (fun σ4 hk => ?_)
  replace hf := hk
  clear hk
  refine r_aload_n (j := 0) rfl rfl dX12_note_70 ?_
  refine r_dup rfl dX12_note_71 ?_
  obtain ⟨fs_x6, x6, ha_x6, hv_x6, hf⟩ := hf
  refine r_get (Cn := RX12) (Tt := TX12) (N := 42) (n := 21) rfl uw_X12 (Nat.le_of_ble_eq_true rfl) wd_6_207 ha_x6 hv_x6 dX12_note_72 ?_
  refine r_iconst (v := 1) (by decide) dX12_note_75 ?_
  refine r_iadd (x := x6) (y := 1) dX12_note_76 ?_
  obtain ⟨fs_x8, ha_x8, hf⟩ := hf
  generalize hσ7 : hset σ4 v0 (.inl (12, fs_x8.set 21 (aI (x6 + 1)))) = σ7 at hf
  refine r_put (Cn := RX12) (Tt := TX12) (N := 42) (n := 21) (v := aI (x6 + 1)) rfl uw_X12 (Nat.le_of_ble_eq_true rfl) wd_6_207 ha_x8 (ty0 := tyX12) tyX12_ok nmX12 rfl (fo_I (x6 + 1)) dX12_note_77 ?_
  rw [hσ7]
  exact r_return rfl dX12_note_80 rfl ⟨rfl, hf⟩
def F_X12_note_11 (l : Launch) (G : GG) (d : Nat) (X11 : Nat → Int32 → Hp → Prop) (v0 : Nat) (v1 : Int32) (σ : Hp) (K : Hp → Prop) : Prop :=
  ((240 : Int32) ≤ (v1 : Int32) →
    fI σ v0 12 21 fun x9 =>
    pF σ v0 12 21 (aI (x9 - 1)) fun σ10 =>
    F_X12_note_49 l G d v0 σ10 K) ∧
  (¬ (240 : Int32) ≤ (v1 : Int32) →
    fN σ v0 12 19 fun x12 =>
    fN σ v0 12 19 fun x13 =>
    gI σ x13 (v1 + 16) fun x14 =>
    sI σ x12 v1 x14 fun σ15 =>
    X11 v0 (v1 + 1) σ15)
set_option maxRecDepth 100000 in
set_option maxHeartbeats 4000000 in
theorem b_X12_note_11 {l : Launch} {G : GG} {d : Nat} {X11 : Nat → Int32 → Hp → Prop} {v0 : Nat} {v1 : Int32} {σ : Hp} {K : Hp → Prop} (hX11 : ∀ v0 v1 σ, X11 v0 v1 σ → Wd l G (d + 1) "CoinsLaidModel" yX12_note cX12_note 2 none 11 [(0, aR (some v0)), (1, aI v1)] [] σ 0 0 (xM (QV K))) (hf : F_X12_note_11 l G d X11 v0 v1 σ K) : Wd l G (d + 1) "CoinsLaidModel" yX12_note cX12_note 2 none 11 [(0, aR (some v0)), (1, aI v1)] [] σ 0 0 (xM (QV K)) := by
  unfold F_X12_note_11 at hf
  refine r_iload_n (j := 1) rfl rfl dX12_note_11 ?_
  refine r_sipush (v := 240) (by decide) dX12_note_12 ?_
  refine r_icmpge (x := v1) (y := 240) (tgt := 39) (by decide) dX12_note_15 (fun hc => ?_) (fun hc => ?_)
  · replace hf := hf.1 hc
    refine r_aload_n (j := 0) rfl rfl dX12_note_39 ?_
    refine r_dup rfl dX12_note_40 ?_
    obtain ⟨fs_x9, x9, ha_x9, hv_x9, hf⟩ := hf
    refine r_get (Cn := RX12) (Tt := TX12) (N := 42) (n := 21) rfl uw_X12 (Nat.le_of_ble_eq_true rfl) wd_6_207 ha_x9 hv_x9 dX12_note_41 ?_
    refine r_iconst (v := 1) (by decide) dX12_note_44 ?_
    refine r_isub (x := x9) (y := 1) dX12_note_45 ?_
    obtain ⟨fs_x11, ha_x11, hf⟩ := hf
    generalize hσ10 : hset σ v0 (.inl (12, fs_x11.set 21 (aI (x9 - 1)))) = σ10 at hf
    refine r_put (Cn := RX12) (Tt := TX12) (N := 42) (n := 21) (v := aI (x9 - 1)) rfl uw_X12 (Nat.le_of_ble_eq_true rfl) wd_6_207 ha_x11 (ty0 := tyX12) tyX12_ok nmX12 rfl (fo_I (x9 - 1)) dX12_note_46 ?_
    rw [hσ10]
    exact r_sub [0] rfl (b_X12_note_49 hf)
  · replace hf := hf.2 hc
    refine r_aload_n (j := 0) rfl rfl dX12_note_18 ?_
    obtain ⟨fs_x12, x12, ha_x12, hv_x12, hf⟩ := hf
    refine r_get (Cn := RX12) (Tt := TX12) (N := 42) (n := 19) rfl uw_X12 (Nat.le_of_ble_eq_true rfl) wd_6_205 ha_x12 hv_x12 dX12_note_19 ?_
    refine r_iload_n (j := 1) rfl rfl dX12_note_22 ?_
    refine r_aload_n (j := 0) rfl rfl dX12_note_23 ?_
    obtain ⟨fs_x13, x13, ha_x13, hv_x13, hf⟩ := hf
    refine r_get (Cn := RX12) (Tt := TX12) (N := 42) (n := 19) rfl uw_X12 (Nat.le_of_ble_eq_true rfl) wd_6_205 ha_x13 hv_x13 dX12_note_24 ?_
    refine r_iload_n (j := 1) rfl rfl dX12_note_27 ?_
    refine r_bipush (v := 16) (by decide) dX12_note_28 ?_
    refine r_iadd (x := v1) (y := 16) dX12_note_30 ?_
    obtain ⟨N_x14, f_x14, ha_x14, hi_x14, hf⟩ := hf
    refine r_iald ha_x14 hi_x14 dX12_note_31 ?_
    generalize f_x14 ((v1 + 16) : Int32).toNatClampNeg = x14 at hf ⊢
    obtain ⟨N_x16, f_x16, ha_x16, hi_x16, hf⟩ := hf
    generalize hσ15 : hset σ x12 (iA N_x16 (up_ f_x16 (v1 : Int32).toNatClampNeg x14)) = σ15 at hf
    refine r_iast (f := f_x16) (x := x14) ha_x16 hi_x16 dX12_note_32 ?_
    refine Eq.mpr (congrArg (fun z => Wd _ _ _ _ _ _ _ _ _ _ _ z _ _ _) hσ15) ?_
    refine r_iinc (j := 1) (w := (v1 + 1)) (L' := [(1, aI (v1 + 1)), (0, aR (some v0))]) rfl (by rfl) rfl (Nat.le_of_ble_eq_true rfl) dX12_note_33 ?_
    refine r_goto (tgt := 11) (by decide) dX12_note_36 ?_
    exact r_sub [1, 0] rfl (hX11 _ _ _ hf)
def Z_X12_note_11 (l : Launch) (G : GG) (d : Nat) (K : Hp → Prop) : Nat → Nat → Int32 → Hp → Prop
  | 0 => fun _ _ _ => False
  | n + 1 => fun v0 v1 σ => F_X12_note_11 l G d (Z_X12_note_11 l G d K n) v0 v1 σ K
theorem z_X12_note_11 {l : Launch} {G : GG} {d : Nat} {K : Hp → Prop} : ∀ (n : Nat) v0 v1 σ, Z_X12_note_11 l G d K n v0 v1 σ → Wd l G (d + 1) "CoinsLaidModel" yX12_note cX12_note 2 none 11 [(0, aR (some v0)), (1, aI v1)] [] σ 0 0 (xM (QV K)) := by
  intro n
  induction n with
  | zero => intro v0 v1 σ hf; exact hf.elim
  | succ n ih => intro v0 v1 σ hf; exact b_X12_note_11 ih hf
def F_X12_note (l : Launch) (G : GG) (d : Nat) (v0 : Nat) (σ : Hp) (K : Hp → Prop) : Prop :=
  fI σ v0 12 21 fun x17 =>
  (¬ (x17 : Int32) = (16 : Int32) →
    F_X12_note_49 l G d v0 σ K) ∧
  ((x17 : Int32) = (16 : Int32) →
    ∃ n, Z_X12_note_11 l G d K n v0 0 σ)
set_option maxRecDepth 100000 in
set_option maxHeartbeats 4000000 in
theorem b_X12_note_0 {l : Launch} {G : GG} {d : Nat} {v0 : Nat} {σ : Hp} {K : Hp → Prop} (hf : F_X12_note l G d v0 σ K) : Wd l G (d + 1) "CoinsLaidModel" yX12_note cX12_note 2 none 0 [(0, aR (some v0))] [] σ 0 0 (xM (QV K)) := by
  unfold F_X12_note at hf
  refine r_aload_n (j := 0) rfl rfl dX12_note_0 ?_
  obtain ⟨fs_x17, x17, ha_x17, hv_x17, hf⟩ := hf
  refine r_get (Cn := RX12) (Tt := TX12) (N := 42) (n := 21) rfl uw_X12 (Nat.le_of_ble_eq_true rfl) wd_6_207 ha_x17 hv_x17 dX12_note_1 ?_
  refine r_bipush (v := 16) (by decide) dX12_note_4 ?_
  refine r_icmpne (x := x17) (y := 16) (tgt := 49) (by decide) dX12_note_6 (fun hc => ?_) (fun hc => ?_)
  · replace hf := hf.1 hc
    exact r_sub [0] rfl (b_X12_note_49 hf)
  · replace hf := hf.2 hc
    refine r_iconst (v := 0) (by decide) dX12_note_9 ?_
    refine r_istore_n (L' := [(1, aI 0), (0, aR (some v0))]) rfl rfl (Nat.le_of_ble_eq_true rfl) dX12_note_10 ?_
    obtain ⟨n, hf⟩ := hf
    exact r_sub [1, 0] rfl (z_X12_note_11 n _ _ _ hf)
theorem m_X12_note {l : Launch} {G : GG} {d : Nat} {v0 : Nat} {σ : Hp} {K : Hp → Prop} (hr : rv σ v0 12) (hf : F_X12_note l G d v0 σ K) : C_X12_note l G (d + 1) v0 σ K := ⟨hr, Sp.of (by decide) (Nat.le_of_ble_eq_true rfl) (b_X12_note_0 hf) rfl⟩
def F_X12_putOn (l : Launch) (G : GG) (d : Nat) (v0 : Nat) (v1 : Int32) (σ : Hp) (K : Hp → Prop) : Prop :=
  fN σ v0 12 17 fun x1 =>
  fN σ v0 12 17 fun x2 =>
  gI σ x2 0 fun x3 =>
  sI σ x1 (1 + x3) v1 fun σ4 =>
  fN σ4 v0 12 17 fun x6 =>
  gI σ4 x6 0 fun x7 =>
  sI σ4 x6 0 (x7 + 1) fun σ8 =>
  K σ8
set_option maxRecDepth 100000 in
set_option maxHeartbeats 4000000 in
theorem b_X12_putOn_0 {l : Launch} {G : GG} {d : Nat} {v0 : Nat} {v1 : Int32} {σ : Hp} {K : Hp → Prop} (hf : F_X12_putOn l G d v0 v1 σ K) : Wd l G (d + 1) "CoinsLaidModel" yX12_putOn cX12_putOn 2 none 0 [(0, aR (some v0)), (1, aI v1)] [] σ 0 0 (xM (QV K)) := by
  unfold F_X12_putOn at hf
  refine r_aload_n (j := 0) rfl rfl dX12_putOn_0 ?_
  obtain ⟨fs_x1, x1, ha_x1, hv_x1, hf⟩ := hf
  refine r_get (Cn := RX12) (Tt := TX12) (N := 42) (n := 17) rfl uw_X12 (Nat.le_of_ble_eq_true rfl) wd_6_203 ha_x1 hv_x1 dX12_putOn_1 ?_
  refine r_iconst (v := 1) (by decide) dX12_putOn_4 ?_
  refine r_aload_n (j := 0) rfl rfl dX12_putOn_5 ?_
  obtain ⟨fs_x2, x2, ha_x2, hv_x2, hf⟩ := hf
  refine r_get (Cn := RX12) (Tt := TX12) (N := 42) (n := 17) rfl uw_X12 (Nat.le_of_ble_eq_true rfl) wd_6_203 ha_x2 hv_x2 dX12_putOn_6 ?_
  refine r_iconst (v := 0) (by decide) dX12_putOn_9 ?_
  obtain ⟨N_x3, f_x3, ha_x3, hi_x3, hf⟩ := hf
  refine r_iald ha_x3 hi_x3 dX12_putOn_10 ?_
  generalize f_x3 (0 : Int32).toNatClampNeg = x3 at hf ⊢
  refine r_iadd (x := 1) (y := x3) dX12_putOn_11 ?_
  refine r_iload_n (j := 1) rfl rfl dX12_putOn_12 ?_
  obtain ⟨N_x5, f_x5, ha_x5, hi_x5, hf⟩ := hf
  generalize hσ4 : hset σ x1 (iA N_x5 (up_ f_x5 ((1 + x3) : Int32).toNatClampNeg v1)) = σ4 at hf
  refine r_iast (f := f_x5) (x := v1) ha_x5 hi_x5 dX12_putOn_13 ?_
  refine Eq.mpr (congrArg (fun z => Wd _ _ _ _ _ _ _ _ _ _ _ z _ _ _) hσ4) ?_
  refine r_aload_n (j := 0) rfl rfl dX12_putOn_14 ?_
  obtain ⟨fs_x6, x6, ha_x6, hv_x6, hf⟩ := hf
  refine r_get (Cn := RX12) (Tt := TX12) (N := 42) (n := 17) rfl uw_X12 (Nat.le_of_ble_eq_true rfl) wd_6_203 ha_x6 hv_x6 dX12_putOn_15 ?_
  refine r_iconst (v := 0) (by decide) dX12_putOn_18 ?_
  refine r_dup2 rfl rfl dX12_putOn_19 ?_
  obtain ⟨N_x7, f_x7, ha_x7, hi_x7, hf⟩ := hf
  refine r_iald ha_x7 hi_x7 dX12_putOn_20 ?_
  generalize f_x7 (0 : Int32).toNatClampNeg = x7 at hf ⊢
  refine r_iconst (v := 1) (by decide) dX12_putOn_21 ?_
  refine r_iadd (x := x7) (y := 1) dX12_putOn_22 ?_
  obtain ⟨N_x9, f_x9, ha_x9, hi_x9, hf⟩ := hf
  generalize hσ8 : hset σ4 x6 (iA N_x9 (up_ f_x9 (0 : Int32).toNatClampNeg (x7 + 1))) = σ8 at hf
  refine r_iast (f := f_x9) (x := (x7 + 1)) ha_x9 hi_x9 dX12_putOn_23 ?_
  refine Eq.mpr (congrArg (fun z => Wd _ _ _ _ _ _ _ _ _ _ _ z _ _ _) hσ8) ?_
  exact r_return rfl dX12_putOn_24 rfl ⟨rfl, hf⟩
theorem m_X12_putOn {l : Launch} {G : GG} {d : Nat} {v0 : Nat} {v1 : Int32} {σ : Hp} {K : Hp → Prop} (hr : rv σ v0 12) (hf : F_X12_putOn l G d v0 v1 σ K) : C_X12_putOn l G (d + 1) v0 v1 σ K := ⟨hr, Sp.of (by decide) (Nat.le_of_ble_eq_true rfl) (b_X12_putOn_0 hf) rfl⟩
def F_X12_puts (l : Launch) (G : GG) (d : Nat) (v0 : Nat) (v1 : Int32) (σ : Hp) (K : Bool → Hp → Prop) : Prop :=
  C_X12_clear l G d v0 σ fun σ1 =>
  C_X12_isLay l G d v0 v1 σ1 fun r4 σ3 =>
  (r4 = true →
    C_X12_standNow l G d v0 σ3 fun r6 σ5 =>
    C_X12_mayBe l G d v0 r6 v1 σ5 fun r8 σ7 =>
    (r8 = true →
      C_X12_note l G d v0 σ7 fun σ9 =>
      C_X12_putOn l G d v0 v1 σ9 fun σ11 =>
      K true σ11) ∧
    (r8 = false →
      C_X12_isNot l G d v0 5 σ7 fun r14 σ13 =>
      K r14 σ13)) ∧
  (r4 = false →
    C_X12_isNot l G d v0 1 σ3 fun r16 σ15 =>
    K r16 σ15)
set_option maxRecDepth 100000 in
set_option maxHeartbeats 4000000 in
theorem b_X12_puts_0 {l : Launch} {G : GG} {d : Nat} {v0 : Nat} {v1 : Int32} {σ : Hp} {K : Bool → Hp → Prop} (hf : F_X12_puts l G d v0 v1 σ K) : Wd l G (d + 1) "CoinsLaidModel" yX12_puts cX12_puts 2 (some FieldType.boolean) 0 [(0, aR (some v0)), (1, aI v1)] [] σ 0 0 (xM (QZ K)) := by
  unfold F_X12_puts at hf
  refine r_aload_n (j := 0) rfl rfl dX12_puts_0 ?_
  try unfold C_X12_clear at hf
  obtain ⟨⟨fs_r2, ha_r2⟩, hf⟩ := hf
  refine r_invVU (t := 12) (As := []) (dz := d) (mz := 0) (sz := 0) rfl wd_7_85 wd_7_87 wd_p_49 cf_X12_clear (Nat.le_refl _) (Nat.zero_le _) (Nat.zero_le _) (cat_ok (Nat.le_of_ble_eq_true rfl)) rfl rfl ha_r2 dX12_puts_1 hf (fun σ1 hk => ?_)
  replace hf := hk
  clear hk
  refine r_aload_n (j := 0) rfl rfl dX12_puts_4 ?_
  refine r_iload_n (j := 1) rfl rfl dX12_puts_5 ?_
  try unfold C_X12_isLay at hf
  obtain ⟨⟨fs_r4, ha_r4⟩, hf⟩ := hf
  refine r_invVZ (t := 12) (As := [aI v1]) (dz := d) (mz := 0) (sz := 0) rfl wd_8_10 wd_8_12 wd_p_75 cf_X12_isLay (Nat.le_refl _) (Nat.zero_le _) (Nat.zero_le _) (cat_ok (Nat.le_of_ble_eq_true rfl)) rfl rfl ha_r4 dX12_puts_6 hf (fun r4 σ3 hk => ?_)
  replace hf := hk
  clear hk
  refine r_ifneZ (b := r4) (tgt := 18) (by decide) dX12_puts_9 (fun hc => ?_) (fun hc => ?_)
  · replace hf := hf.1 hc
    refine r_aload_n (j := 0) rfl rfl dX12_puts_18 ?_
    refine r_aload_n (j := 0) rfl rfl dX12_puts_19 ?_
    try unfold C_X12_standNow at hf
    obtain ⟨⟨fs_r6, ha_r6⟩, hf⟩ := hf
    refine r_invVI (t := 12) (As := []) (dz := d) (mz := 0) (sz := 0) rfl wd_8_26 wd_8_28 wd_p_77 cf_X12_standNow (Nat.le_refl _) (Nat.zero_le _) (Nat.zero_le _) (cat_ok (Nat.le_of_ble_eq_true rfl)) rfl rfl ha_r6 dX12_puts_20 hf (fun r6 σ5 hk => ?_)
    replace hf := hk
    clear hk
    refine r_iload_n (j := 1) rfl rfl dX12_puts_23 ?_
    try unfold C_X12_mayBe at hf
    obtain ⟨⟨fs_r8, ha_r8⟩, hf⟩ := hf
    refine r_invVZ (t := 12) (As := [aI r6, aI v1]) (dz := d) (mz := 0) (sz := 0) rfl wd_8_30 wd_8_32 wd_p_78 cf_X12_mayBe (Nat.le_refl _) (Nat.zero_le _) (Nat.zero_le _) (cat_ok (Nat.le_of_ble_eq_true rfl)) rfl rfl ha_r8 dX12_puts_24 hf (fun r8 σ7 hk => ?_)
    replace hf := hk
    clear hk
    refine r_ifneZ (b := r8) (tgt := 36) (by decide) dX12_puts_27 (fun hc => ?_) (fun hc => ?_)
    · replace hf := hf.1 hc
      refine r_aload_n (j := 0) rfl rfl dX12_puts_36 ?_
      try unfold C_X12_note at hf
      obtain ⟨⟨fs_r10, ha_r10⟩, hf⟩ := hf
      refine r_invVU (t := 12) (As := []) (dz := d) (mz := 0) (sz := 0) rfl wd_9_18 wd_9_20 wd_p_103 cf_X12_note (Nat.le_refl _) (Nat.zero_le _) (Nat.zero_le _) (cat_ok (Nat.le_of_ble_eq_true rfl)) rfl rfl ha_r10 dX12_puts_37 hf (fun σ9 hk => ?_)
      replace hf := hk
      clear hk
      refine r_aload_n (j := 0) rfl rfl dX12_puts_40 ?_
      refine r_iload_n (j := 1) rfl rfl dX12_puts_41 ?_
      try unfold C_X12_putOn at hf
      obtain ⟨⟨fs_r12, ha_r12⟩, hf⟩ := hf
      refine r_invVU (t := 12) (As := [aI v1]) (dz := d) (mz := 0) (sz := 0) rfl wd_9_22 wd_9_24 wd_p_104 cf_X12_putOn (Nat.le_refl _) (Nat.zero_le _) (Nat.zero_le _) (cat_ok (Nat.le_of_ble_eq_true rfl)) rfl rfl ha_r12 dX12_puts_42 hf (fun σ11 hk => ?_)
      replace hf := hk
      clear hk
      refine r_iconst (v := 1) (by decide) dX12_puts_45 ?_
      exact r_zreturn (b := true) rfl dX12_puts_46 rfl ⟨_, rfl, hf⟩
    · replace hf := hf.2 hc
      refine r_aload_n (j := 0) rfl rfl dX12_puts_30 ?_
      refine r_iconst (v := 5) (by decide) dX12_puts_31 ?_
      try unfold C_X12_isNot at hf
      obtain ⟨⟨fs_r14, ha_r14⟩, hf⟩ := hf
      refine r_invVZ (t := 12) (As := [aI 5]) (dz := d) (mz := 0) (sz := 0) rfl wd_9_14 wd_9_16 wd_p_102 cf_X12_isNot (Nat.le_refl _) (Nat.zero_le _) (Nat.zero_le _) (cat_ok (Nat.le_of_ble_eq_true rfl)) rfl rfl ha_r14 dX12_puts_32 hf (fun r14 σ13 hk => ?_)
      replace hf := hk
      clear hk
      exact r_zreturn (b := r14) rfl dX12_puts_35 rfl ⟨_, rfl, hf⟩
  · replace hf := hf.2 hc
    refine r_aload_n (j := 0) rfl rfl dX12_puts_12 ?_
    refine r_iconst (v := 1) (by decide) dX12_puts_13 ?_
    try unfold C_X12_isNot at hf
    obtain ⟨⟨fs_r16, ha_r16⟩, hf⟩ := hf
    refine r_invVZ (t := 12) (As := [aI 1]) (dz := d) (mz := 0) (sz := 0) rfl wd_9_14 wd_9_16 wd_p_102 cf_X12_isNot (Nat.le_refl _) (Nat.zero_le _) (Nat.zero_le _) (cat_ok (Nat.le_of_ble_eq_true rfl)) rfl rfl ha_r16 dX12_puts_14 hf (fun r16 σ15 hk => ?_)
    replace hf := hk
    clear hk
    exact r_zreturn (b := r16) rfl dX12_puts_17 rfl ⟨_, rfl, hf⟩
theorem m_X12_puts {l : Launch} {G : GG} {d : Nat} {v0 : Nat} {v1 : Int32} {σ : Hp} {K : Bool → Hp → Prop} (hr : rv σ v0 12) (hf : F_X12_puts l G d v0 v1 σ K) : C_X12_puts l G (d + 1) v0 v1 σ K := ⟨hr, Sp.of (by decide) (Nat.le_of_ble_eq_true rfl) (b_X12_puts_0 hf) rfl⟩
def F_X12_takes (l : Launch) (G : GG) (d : Nat) (v0 : Nat) (σ : Hp) (K : Int32 → Hp → Prop) : Prop :=
  C_X12_clear l G d v0 σ fun σ1 =>
  fZ σ1 v0 12 14 fun x3 =>
  (x3 = true →
    fN σ1 v0 12 17 fun x4 =>
    gI σ1 x4 0 fun x5 =>
    (¬ (x5 : Int32) = 0 →
      C_X12_note l G d v0 σ1 fun σ6 =>
      C_X12_latest l G d v0 σ6 fun r9 σ8 =>
      fN σ8 v0 12 17 fun x10 =>
      gI σ8 x10 0 fun x11 =>
      sI σ8 x10 0 (x11 - 1) fun σ12 =>
      fN σ12 v0 12 17 fun x14 =>
      fN σ12 v0 12 17 fun x15 =>
      gI σ12 x15 0 fun x16 =>
      sI σ12 x14 (1 + x16) 0 fun σ17 =>
      K r9 σ17) ∧
    ((x5 : Int32) = 0 →
      C_X12_no l G d v0 6 σ1 fun r20 σ19 =>
      K r20 σ19)) ∧
  (x3 = false →
    C_X12_no l G d v0 1 σ1 fun r22 σ21 =>
    K r22 σ21)
set_option maxRecDepth 100000 in
set_option maxHeartbeats 4000000 in
theorem b_X12_takes_0 {l : Launch} {G : GG} {d : Nat} {v0 : Nat} {σ : Hp} {K : Int32 → Hp → Prop} (hf : F_X12_takes l G d v0 σ K) : Wd l G (d + 1) "CoinsLaidModel" yX12_takes cX12_takes 2 (some FieldType.int) 0 [(0, aR (some v0))] [] σ 0 0 (xM (QI K)) := by
  unfold F_X12_takes at hf
  refine r_aload_n (j := 0) rfl rfl dX12_takes_0 ?_
  try unfold C_X12_clear at hf
  obtain ⟨⟨fs_r2, ha_r2⟩, hf⟩ := hf
  refine r_invVU (t := 12) (As := []) (dz := d) (mz := 0) (sz := 0) rfl wd_7_85 wd_7_87 wd_p_49 cf_X12_clear (Nat.le_refl _) (Nat.zero_le _) (Nat.zero_le _) (cat_ok (Nat.le_of_ble_eq_true rfl)) rfl rfl ha_r2 dX12_takes_1 hf (fun σ1 hk => ?_)
  replace hf := hk
  clear hk
  refine r_aload_n (j := 0) rfl rfl dX12_takes_4 ?_
  obtain ⟨fs_x3, x3, ha_x3, hv_x3, hf⟩ := hf
  refine r_get (Cn := RX12) (Tt := TX12) (N := 42) (n := 14) rfl uw_X12 (Nat.le_of_ble_eq_true rfl) wd_6_200 ha_x3 hv_x3 dX12_takes_5 ?_
  refine r_ifneZ (b := x3) (tgt := 17) (by decide) dX12_takes_8 (fun hc => ?_) (fun hc => ?_)
  · replace hf := hf.1 hc
    refine r_aload_n (j := 0) rfl rfl dX12_takes_17 ?_
    obtain ⟨fs_x4, x4, ha_x4, hv_x4, hf⟩ := hf
    refine r_get (Cn := RX12) (Tt := TX12) (N := 42) (n := 17) rfl uw_X12 (Nat.le_of_ble_eq_true rfl) wd_6_203 ha_x4 hv_x4 dX12_takes_18 ?_
    refine r_iconst (v := 0) (by decide) dX12_takes_21 ?_
    obtain ⟨N_x5, f_x5, ha_x5, hi_x5, hf⟩ := hf
    refine r_iald ha_x5 hi_x5 dX12_takes_22 ?_
    generalize f_x5 (0 : Int32).toNatClampNeg = x5 at hf ⊢
    refine r_ifne (x := x5) (tgt := 33) (by decide) dX12_takes_23 (fun hc => ?_) (fun hc => ?_)
    · replace hf := hf.1 hc
      refine r_aload_n (j := 0) rfl rfl dX12_takes_33 ?_
      try unfold C_X12_note at hf
      obtain ⟨⟨fs_r7, ha_r7⟩, hf⟩ := hf
      refine r_invVU (t := 12) (As := []) (dz := d) (mz := 0) (sz := 0) rfl wd_9_18 wd_9_20 wd_p_103 cf_X12_note (Nat.le_refl _) (Nat.zero_le _) (Nat.zero_le _) (cat_ok (Nat.le_of_ble_eq_true rfl)) rfl rfl ha_r7 dX12_takes_34 hf (fun σ6 hk => ?_)
      replace hf := hk
      clear hk
      refine r_aload_n (j := 0) rfl rfl dX12_takes_37 ?_
      try unfold C_X12_latest at hf
      obtain ⟨⟨fs_r9, ha_r9⟩, hf⟩ := hf
      refine r_invVI (t := 12) (As := []) (dz := d) (mz := 0) (sz := 0) rfl wd_8_225 wd_8_227 wd_p_99 cf_X12_latest (Nat.le_refl _) (Nat.zero_le _) (Nat.zero_le _) (cat_ok (Nat.le_of_ble_eq_true rfl)) rfl rfl ha_r9 dX12_takes_38 hf (fun r9 σ8 hk => ?_)
      replace hf := hk
      clear hk
      refine r_istore_n (L' := [(1, aI r9), (0, aR (some v0))]) rfl rfl (Nat.le_of_ble_eq_true rfl) dX12_takes_41 ?_
      refine r_aload_n (j := 1) rfl rfl dX12_takes_42 ?_
      obtain ⟨fs_x10, x10, ha_x10, hv_x10, hf⟩ := hf
      refine r_get (Cn := RX12) (Tt := TX12) (N := 42) (n := 17) rfl uw_X12 (Nat.le_of_ble_eq_true rfl) wd_6_203 ha_x10 hv_x10 dX12_takes_43 ?_
      refine r_iconst (v := 0) (by decide) dX12_takes_46 ?_
      refine r_dup2 rfl rfl dX12_takes_47 ?_
      obtain ⟨N_x11, f_x11, ha_x11, hi_x11, hf⟩ := hf
      refine r_iald ha_x11 hi_x11 dX12_takes_48 ?_
      generalize f_x11 (0 : Int32).toNatClampNeg = x11 at hf ⊢
      refine r_iconst (v := 1) (by decide) dX12_takes_49 ?_
      refine r_isub (x := x11) (y := 1) dX12_takes_50 ?_
      obtain ⟨N_x13, f_x13, ha_x13, hi_x13, hf⟩ := hf
      generalize hσ12 : hset σ8 x10 (iA N_x13 (up_ f_x13 (0 : Int32).toNatClampNeg (x11 - 1))) = σ12 at hf
      refine r_iast (f := f_x13) (x := (x11 - 1)) ha_x13 hi_x13 dX12_takes_51 ?_
      refine Eq.mpr (congrArg (fun z => Wd _ _ _ _ _ _ _ _ _ _ _ z _ _ _) hσ12) ?_
      refine r_aload_n (j := 1) rfl rfl dX12_takes_52 ?_
      obtain ⟨fs_x14, x14, ha_x14, hv_x14, hf⟩ := hf
      refine r_get (Cn := RX12) (Tt := TX12) (N := 42) (n := 17) rfl uw_X12 (Nat.le_of_ble_eq_true rfl) wd_6_203 ha_x14 hv_x14 dX12_takes_53 ?_
      refine r_iconst (v := 1) (by decide) dX12_takes_56 ?_
      refine r_aload_n (j := 1) rfl rfl dX12_takes_57 ?_
      obtain ⟨fs_x15, x15, ha_x15, hv_x15, hf⟩ := hf
      refine r_get (Cn := RX12) (Tt := TX12) (N := 42) (n := 17) rfl uw_X12 (Nat.le_of_ble_eq_true rfl) wd_6_203 ha_x15 hv_x15 dX12_takes_58 ?_
      refine r_iconst (v := 0) (by decide) dX12_takes_61 ?_
      obtain ⟨N_x16, f_x16, ha_x16, hi_x16, hf⟩ := hf
      refine r_iald ha_x16 hi_x16 dX12_takes_62 ?_
      generalize f_x16 (0 : Int32).toNatClampNeg = x16 at hf ⊢
      refine r_iadd (x := 1) (y := x16) dX12_takes_63 ?_
      refine r_iconst (v := 0) (by decide) dX12_takes_64 ?_
      obtain ⟨N_x18, f_x18, ha_x18, hi_x18, hf⟩ := hf
      generalize hσ17 : hset σ12 x14 (iA N_x18 (up_ f_x18 ((1 + x16) : Int32).toNatClampNeg 0)) = σ17 at hf
      refine r_iast (f := f_x18) (x := 0) ha_x18 hi_x18 dX12_takes_65 ?_
      refine Eq.mpr (congrArg (fun z => Wd _ _ _ _ _ _ _ _ _ _ _ z _ _ _) hσ17) ?_
      refine r_iload_n (j := 0) rfl rfl dX12_takes_66 ?_
      exact r_ireturn rfl dX12_takes_67 rfl ⟨_, rfl, hf⟩
    · replace hf := hf.2 hc
      refine r_aload_n (j := 0) rfl rfl dX12_takes_26 ?_
      refine r_bipush (v := 6) (by decide) dX12_takes_27 ?_
      try unfold C_X12_no at hf
      obtain ⟨⟨fs_r20, ha_r20⟩, hf⟩ := hf
      refine r_invVI (t := 12) (As := [aI 6]) (dz := d) (mz := 0) (sz := 0) rfl wd_7_92 wd_7_94 wd_p_50 cf_X12_no (Nat.le_refl _) (Nat.zero_le _) (Nat.zero_le _) (cat_ok (Nat.le_of_ble_eq_true rfl)) rfl rfl ha_r20 dX12_takes_29 hf (fun r20 σ19 hk => ?_)
      replace hf := hk
      clear hk
      exact r_ireturn rfl dX12_takes_32 rfl ⟨_, rfl, hf⟩
  · replace hf := hf.2 hc
    refine r_aload_n (j := 0) rfl rfl dX12_takes_11 ?_
    refine r_iconst (v := 1) (by decide) dX12_takes_12 ?_
    try unfold C_X12_no at hf
    obtain ⟨⟨fs_r22, ha_r22⟩, hf⟩ := hf
    refine r_invVI (t := 12) (As := [aI 1]) (dz := d) (mz := 0) (sz := 0) rfl wd_7_92 wd_7_94 wd_p_50 cf_X12_no (Nat.le_refl _) (Nat.zero_le _) (Nat.zero_le _) (cat_ok (Nat.le_of_ble_eq_true rfl)) rfl rfl ha_r22 dX12_takes_13 hf (fun r22 σ21 hk => ?_)
    replace hf := hk
    clear hk
    exact r_ireturn rfl dX12_takes_16 rfl ⟨_, rfl, hf⟩
theorem m_X12_takes {l : Launch} {G : GG} {d : Nat} {v0 : Nat} {σ : Hp} {K : Int32 → Hp → Prop} (hr : rv σ v0 12) (hf : F_X12_takes l G d v0 σ K) : C_X12_takes l G (d + 1) v0 σ K := ⟨hr, Sp.of (by decide) (Nat.le_of_ble_eq_true rfl) (b_X12_takes_0 hf) rfl⟩
def F_X12_plays (l : Launch) (G : GG) (d : Nat) (v0 : Nat) (v1 : Int32) (σ : Hp) (K : Int32 → Hp → Prop) : Prop :=
  C_X12_clear l G d v0 σ fun σ1 =>
  C_X12_isPlayer l G d v0 v1 σ1 fun r4 σ3 =>
  (r4 = true →
    C_X12_standNow l G d v0 σ3 fun r6 σ5 =>
    C_X12_isOver l G d v0 r6 σ5 fun r8 σ7 =>
    (r8 = false →
      C_X12_note l G d v0 σ7 fun σ9 =>
      fN σ9 v0 12 17 fun x11 =>
      gI σ9 x11 15 fun x12 =>
      pF σ9 v0 12 40 (aI x12) fun σ13 =>
      C_X12_standNow l G d v0 σ13 fun r16 σ15 =>
      C_X12_latest l G d v0 σ15 fun r18 σ17 =>
      C_X12_wouldLay l G d v0 v1 r16 r18 σ17 fun r20 σ19 =>
      fN σ19 v0 12 17 fun x21 =>
      fI σ19 v0 12 40 fun x22 =>
      sI σ19 x21 15 x22 fun σ23 =>
      C_X12_putOn l G d v0 r20 σ23 fun σ25 =>
      K r20 σ25) ∧
    (r8 = true →
      C_X12_no l G d v0 6 σ7 fun r28 σ27 =>
      K r28 σ27)) ∧
  (r4 = false →
    C_X12_no l G d v0 1 σ3 fun r30 σ29 =>
    K r30 σ29)
set_option maxRecDepth 100000 in
set_option maxHeartbeats 4000000 in
theorem b_X12_plays_0 {l : Launch} {G : GG} {d : Nat} {v0 : Nat} {v1 : Int32} {σ : Hp} {K : Int32 → Hp → Prop} (hf : F_X12_plays l G d v0 v1 σ K) : Wd l G (d + 1) "CoinsLaidModel" yX12_plays cX12_plays 3 (some FieldType.int) 0 [(0, aR (some v0)), (1, aI v1)] [] σ 0 0 (xM (QI K)) := by
  unfold F_X12_plays at hf
  refine r_aload_n (j := 0) rfl rfl dX12_plays_0 ?_
  try unfold C_X12_clear at hf
  obtain ⟨⟨fs_r2, ha_r2⟩, hf⟩ := hf
  refine r_invVU (t := 12) (As := []) (dz := d) (mz := 0) (sz := 0) rfl wd_7_85 wd_7_87 wd_p_49 cf_X12_clear (Nat.le_refl _) (Nat.zero_le _) (Nat.zero_le _) (cat_ok (Nat.le_of_ble_eq_true rfl)) rfl rfl ha_r2 dX12_plays_1 hf (fun σ1 hk => ?_)
  replace hf := hk
  clear hk
  refine r_aload_n (j := 0) rfl rfl dX12_plays_4 ?_
  refine r_iload_n (j := 1) rfl rfl dX12_plays_5 ?_
  try unfold C_X12_isPlayer at hf
  obtain ⟨⟨fs_r4, ha_r4⟩, hf⟩ := hf
  refine r_invVZ (t := 12) (As := [aI v1]) (dz := d) (mz := 0) (sz := 0) rfl wd_8_221 wd_8_223 wd_p_98 cf_X12_isPlayer (Nat.le_refl _) (Nat.zero_le _) (Nat.zero_le _) (cat_ok (Nat.le_of_ble_eq_true rfl)) rfl rfl ha_r4 dX12_plays_6 hf (fun r4 σ3 hk => ?_)
  replace hf := hk
  clear hk
  refine r_ifneZ (b := r4) (tgt := 18) (by decide) dX12_plays_9 (fun hc => ?_) (fun hc => ?_)
  · replace hf := hf.1 hc
    refine r_aload_n (j := 0) rfl rfl dX12_plays_18 ?_
    refine r_aload_n (j := 0) rfl rfl dX12_plays_19 ?_
    try unfold C_X12_standNow at hf
    obtain ⟨⟨fs_r6, ha_r6⟩, hf⟩ := hf
    refine r_invVI (t := 12) (As := []) (dz := d) (mz := 0) (sz := 0) rfl wd_8_26 wd_8_28 wd_p_77 cf_X12_standNow (Nat.le_refl _) (Nat.zero_le _) (Nat.zero_le _) (cat_ok (Nat.le_of_ble_eq_true rfl)) rfl rfl ha_r6 dX12_plays_20 hf (fun r6 σ5 hk => ?_)
    replace hf := hk
    clear hk
    try unfold C_X12_isOver at hf
    obtain ⟨⟨fs_r8, ha_r8⟩, hf⟩ := hf
    refine r_invVZ (t := 12) (As := [aI r6]) (dz := d) (mz := 0) (sz := 0) rfl wd_8_88 wd_8_90 wd_p_83 cf_X12_isOver (Nat.le_refl _) (Nat.zero_le _) (Nat.zero_le _) (cat_ok (Nat.le_of_ble_eq_true rfl)) rfl rfl ha_r8 dX12_plays_23 hf (fun r8 σ7 hk => ?_)
    replace hf := hk
    clear hk
    refine r_ifeqZ (b := r8) (tgt := 36) (by decide) dX12_plays_26 (fun hc => ?_) (fun hc => ?_)
    · replace hf := hf.1 hc
      refine r_aload_n (j := 0) rfl rfl dX12_plays_36 ?_
      try unfold C_X12_note at hf
      obtain ⟨⟨fs_r10, ha_r10⟩, hf⟩ := hf
      refine r_invVU (t := 12) (As := []) (dz := d) (mz := 0) (sz := 0) rfl wd_9_18 wd_9_20 wd_p_103 cf_X12_note (Nat.le_refl _) (Nat.zero_le _) (Nat.zero_le _) (cat_ok (Nat.le_of_ble_eq_true rfl)) rfl rfl ha_r10 dX12_plays_37 hf (fun σ9 hk => ?_)
      replace hf := hk
      clear hk
      refine r_aload_n (j := 0) rfl rfl dX12_plays_40 ?_
      refine r_aload_n (j := 0) rfl rfl dX12_plays_41 ?_
      obtain ⟨fs_x11, x11, ha_x11, hv_x11, hf⟩ := hf
      refine r_get (Cn := RX12) (Tt := TX12) (N := 42) (n := 17) rfl uw_X12 (Nat.le_of_ble_eq_true rfl) wd_6_203 ha_x11 hv_x11 dX12_plays_42 ?_
      refine r_bipush (v := 15) (by decide) dX12_plays_45 ?_
      obtain ⟨N_x12, f_x12, ha_x12, hi_x12, hf⟩ := hf
      refine r_iald ha_x12 hi_x12 dX12_plays_47 ?_
      generalize f_x12 (15 : Int32).toNatClampNeg = x12 at hf ⊢
      obtain ⟨fs_x14, ha_x14, hf⟩ := hf
      generalize hσ13 : hset σ9 v0 (.inl (12, fs_x14.set 40 (aI x12))) = σ13 at hf
      refine r_put (Cn := RX12) (Tt := TX12) (N := 42) (n := 40) (v := aI x12) rfl uw_X12 (Nat.le_of_ble_eq_true rfl) wd_6_226 ha_x14 (ty0 := tyX12) tyX12_ok nmX12 rfl (fo_I x12) dX12_plays_48 ?_
      rw [hσ13]
      refine r_aload_n (j := 0) rfl rfl dX12_plays_51 ?_
      refine r_iload_n (j := 1) rfl rfl dX12_plays_52 ?_
      refine r_aload_n (j := 0) rfl rfl dX12_plays_53 ?_
      try unfold C_X12_standNow at hf
      obtain ⟨⟨fs_r16, ha_r16⟩, hf⟩ := hf
      refine r_invVI (t := 12) (As := []) (dz := d) (mz := 0) (sz := 0) rfl wd_8_26 wd_8_28 wd_p_77 cf_X12_standNow (Nat.le_refl _) (Nat.zero_le _) (Nat.zero_le _) (cat_ok (Nat.le_of_ble_eq_true rfl)) rfl rfl ha_r16 dX12_plays_54 hf (fun r16 σ15 hk => ?_)
      replace hf := hk
      clear hk
      refine r_aload_n (j := 0) rfl rfl dX12_plays_57 ?_
      try unfold C_X12_latest at hf
      obtain ⟨⟨fs_r18, ha_r18⟩, hf⟩ := hf
      refine r_invVI (t := 12) (As := []) (dz := d) (mz := 0) (sz := 0) rfl wd_8_225 wd_8_227 wd_p_99 cf_X12_latest (Nat.le_refl _) (Nat.zero_le _) (Nat.zero_le _) (cat_ok (Nat.le_of_ble_eq_true rfl)) rfl rfl ha_r18 dX12_plays_58 hf (fun r18 σ17 hk => ?_)
      replace hf := hk
      clear hk
      try unfold C_X12_wouldLay at hf
      obtain ⟨⟨fs_r20, ha_r20⟩, hf⟩ := hf
      refine r_invVI (t := 12) (As := [aI v1, aI r16, aI r18]) (dz := d) (mz := 0) (sz := 0) rfl wd_8_229 wd_8_231 wd_p_100 cf_X12_wouldLay (Nat.le_refl _) (Nat.zero_le _) (Nat.zero_le _) (cat_ok (Nat.le_of_ble_eq_true rfl)) rfl rfl ha_r20 dX12_plays_61 hf (fun r20 σ19 hk => ?_)
      replace hf := hk
      clear hk
      refine r_istore_n (L' := [(2, aI r20), (0, aR (some v0)), (1, aI v1)]) rfl rfl (Nat.le_of_ble_eq_true rfl) dX12_plays_64 ?_
      refine r_aload_n (j := 1) rfl rfl dX12_plays_65 ?_
      obtain ⟨fs_x21, x21, ha_x21, hv_x21, hf⟩ := hf
      refine r_get (Cn := RX12) (Tt := TX12) (N := 42) (n := 17) rfl uw_X12 (Nat.le_of_ble_eq_true rfl) wd_6_203 ha_x21 hv_x21 dX12_plays_66 ?_
      refine r_bipush (v := 15) (by decide) dX12_plays_69 ?_
      refine r_aload_n (j := 1) rfl rfl dX12_plays_71 ?_
      obtain ⟨fs_x22, x22, ha_x22, hv_x22, hf⟩ := hf
      refine r_get (Cn := RX12) (Tt := TX12) (N := 42) (n := 40) rfl uw_X12 (Nat.le_of_ble_eq_true rfl) wd_6_226 ha_x22 hv_x22 dX12_plays_72 ?_
      obtain ⟨N_x24, f_x24, ha_x24, hi_x24, hf⟩ := hf
      generalize hσ23 : hset σ19 x21 (iA N_x24 (up_ f_x24 (15 : Int32).toNatClampNeg x22)) = σ23 at hf
      refine r_iast (f := f_x24) (x := x22) ha_x24 hi_x24 dX12_plays_75 ?_
      refine Eq.mpr (congrArg (fun z => Wd _ _ _ _ _ _ _ _ _ _ _ z _ _ _) hσ23) ?_
      refine r_aload_n (j := 1) rfl rfl dX12_plays_76 ?_
      refine r_iload_n (j := 0) rfl rfl dX12_plays_77 ?_
      try unfold C_X12_putOn at hf
      obtain ⟨⟨fs_r26, ha_r26⟩, hf⟩ := hf
      refine r_invVU (t := 12) (As := [aI r20]) (dz := d) (mz := 0) (sz := 0) rfl wd_9_22 wd_9_24 wd_p_104 cf_X12_putOn (Nat.le_refl _) (Nat.zero_le _) (Nat.zero_le _) (cat_ok (Nat.le_of_ble_eq_true rfl)) rfl rfl ha_r26 dX12_plays_78 hf (fun σ25 hk => ?_)
      replace hf := hk
      clear hk
      refine r_iload_n (j := 0) rfl rfl dX12_plays_81 ?_
      exact r_ireturn rfl dX12_plays_82 rfl ⟨_, rfl, hf⟩
    · replace hf := hf.2 hc
      refine r_aload_n (j := 0) rfl rfl dX12_plays_29 ?_
      refine r_bipush (v := 6) (by decide) dX12_plays_30 ?_
      try unfold C_X12_no at hf
      obtain ⟨⟨fs_r28, ha_r28⟩, hf⟩ := hf
      refine r_invVI (t := 12) (As := [aI 6]) (dz := d) (mz := 0) (sz := 0) rfl wd_7_92 wd_7_94 wd_p_50 cf_X12_no (Nat.le_refl _) (Nat.zero_le _) (Nat.zero_le _) (cat_ok (Nat.le_of_ble_eq_true rfl)) rfl rfl ha_r28 dX12_plays_32 hf (fun r28 σ27 hk => ?_)
      replace hf := hk
      clear hk
      exact r_ireturn rfl dX12_plays_35 rfl ⟨_, rfl, hf⟩
  · replace hf := hf.2 hc
    refine r_aload_n (j := 0) rfl rfl dX12_plays_12 ?_
    refine r_iconst (v := 1) (by decide) dX12_plays_13 ?_
    try unfold C_X12_no at hf
    obtain ⟨⟨fs_r30, ha_r30⟩, hf⟩ := hf
    refine r_invVI (t := 12) (As := [aI 1]) (dz := d) (mz := 0) (sz := 0) rfl wd_7_92 wd_7_94 wd_p_50 cf_X12_no (Nat.le_refl _) (Nat.zero_le _) (Nat.zero_le _) (cat_ok (Nat.le_of_ble_eq_true rfl)) rfl rfl ha_r30 dX12_plays_14 hf (fun r30 σ29 hk => ?_)
    replace hf := hk
    clear hk
    exact r_ireturn rfl dX12_plays_17 rfl ⟨_, rfl, hf⟩
theorem m_X12_plays {l : Launch} {G : GG} {d : Nat} {v0 : Nat} {v1 : Int32} {σ : Hp} {K : Int32 → Hp → Prop} (hr : rv σ v0 12) (hf : F_X12_plays l G d v0 v1 σ K) : C_X12_plays l G (d + 1) v0 v1 σ K := ⟨hr, Sp.of (by decide) (Nat.le_of_ble_eq_true rfl) (b_X12_plays_0 hf) rfl⟩
def F_X12_seed (l : Launch) (G : GG) (d : Nat) (v0 : Nat) (v1 : Int32) (σ : Hp) (K : Bool → Hp → Prop) : Prop :=
  C_X12_clear l G d v0 σ fun σ1 =>
  fZ σ1 v0 12 14 fun x3 =>
  (x3 = true →
    C_X12_within l G d v1 0 65536 σ1 fun r5 σ4 =>
    (r5 = true →
      fN σ4 v0 12 17 fun x6 =>
      sI σ4 x6 15 v1 fun σ7 =>
      K true σ7) ∧
    (r5 = false →
      C_X12_isNot l G d v0 2 σ4 fun r10 σ9 =>
      K r10 σ9)) ∧
  (x3 = false →
    C_X12_isNot l G d v0 1 σ1 fun r12 σ11 =>
    K r12 σ11)
set_option maxRecDepth 100000 in
set_option maxHeartbeats 4000000 in
theorem b_X12_seed_0 {l : Launch} {G : GG} {d : Nat} {v0 : Nat} {v1 : Int32} {σ : Hp} {K : Bool → Hp → Prop} (hf : F_X12_seed l G d v0 v1 σ K) : Wd l G (d + 1) "CoinsLaidModel" yX12_seed cX12_seed 2 (some FieldType.boolean) 0 [(0, aR (some v0)), (1, aI v1)] [] σ 0 0 (xM (QZ K)) := by
  unfold F_X12_seed at hf
  refine r_aload_n (j := 0) rfl rfl dX12_seed_0 ?_
  try unfold C_X12_clear at hf
  obtain ⟨⟨fs_r2, ha_r2⟩, hf⟩ := hf
  refine r_invVU (t := 12) (As := []) (dz := d) (mz := 0) (sz := 0) rfl wd_7_85 wd_7_87 wd_p_49 cf_X12_clear (Nat.le_refl _) (Nat.zero_le _) (Nat.zero_le _) (cat_ok (Nat.le_of_ble_eq_true rfl)) rfl rfl ha_r2 dX12_seed_1 hf (fun σ1 hk => ?_)
  replace hf := hk
  clear hk
  refine r_aload_n (j := 0) rfl rfl dX12_seed_4 ?_
  obtain ⟨fs_x3, x3, ha_x3, hv_x3, hf⟩ := hf
  refine r_get (Cn := RX12) (Tt := TX12) (N := 42) (n := 14) rfl uw_X12 (Nat.le_of_ble_eq_true rfl) wd_6_200 ha_x3 hv_x3 dX12_seed_5 ?_
  refine r_ifneZ (b := x3) (tgt := 17) (by decide) dX12_seed_8 (fun hc => ?_) (fun hc => ?_)
  · replace hf := hf.1 hc
    refine r_iload_n (j := 1) rfl rfl dX12_seed_17 ?_
    refine r_iconst (v := 0) (by decide) dX12_seed_18 ?_
    refine r_ldcw wd_9_38 dX12_seed_19 ?_
    try unfold C_X12_within at hf
    refine r_invSZ (As := [aI v1, aI 0, aI 65536]) (dz := d) (mz := 0) (sz := 0) rfl wd_7_89 wd_7_90 cf_X12_within (Nat.le_refl _) (Nat.zero_le _) (Nat.zero_le _) (cat_ok (Nat.le_of_ble_eq_true rfl)) dX12_seed_22 hf (fun r5 σ4 hk => ?_)
    replace hf := hk
    clear hk
    refine r_ifneZ (b := r5) (tgt := 34) (by decide) dX12_seed_25 (fun hc => ?_) (fun hc => ?_)
    · replace hf := hf.1 hc
      refine r_aload_n (j := 0) rfl rfl dX12_seed_34 ?_
      obtain ⟨fs_x6, x6, ha_x6, hv_x6, hf⟩ := hf
      refine r_get (Cn := RX12) (Tt := TX12) (N := 42) (n := 17) rfl uw_X12 (Nat.le_of_ble_eq_true rfl) wd_6_203 ha_x6 hv_x6 dX12_seed_35 ?_
      refine r_bipush (v := 15) (by decide) dX12_seed_38 ?_
      refine r_iload_n (j := 1) rfl rfl dX12_seed_40 ?_
      obtain ⟨N_x8, f_x8, ha_x8, hi_x8, hf⟩ := hf
      generalize hσ7 : hset σ4 x6 (iA N_x8 (up_ f_x8 (15 : Int32).toNatClampNeg v1)) = σ7 at hf
      refine r_iast (f := f_x8) (x := v1) ha_x8 hi_x8 dX12_seed_41 ?_
      refine Eq.mpr (congrArg (fun z => Wd _ _ _ _ _ _ _ _ _ _ _ z _ _ _) hσ7) ?_
      refine r_iconst (v := 1) (by decide) dX12_seed_42 ?_
      exact r_zreturn (b := true) rfl dX12_seed_43 rfl ⟨_, rfl, hf⟩
    · replace hf := hf.2 hc
      refine r_aload_n (j := 0) rfl rfl dX12_seed_28 ?_
      refine r_iconst (v := 2) (by decide) dX12_seed_29 ?_
      try unfold C_X12_isNot at hf
      obtain ⟨⟨fs_r10, ha_r10⟩, hf⟩ := hf
      refine r_invVZ (t := 12) (As := [aI 2]) (dz := d) (mz := 0) (sz := 0) rfl wd_9_14 wd_9_16 wd_p_102 cf_X12_isNot (Nat.le_refl _) (Nat.zero_le _) (Nat.zero_le _) (cat_ok (Nat.le_of_ble_eq_true rfl)) rfl rfl ha_r10 dX12_seed_30 hf (fun r10 σ9 hk => ?_)
      replace hf := hk
      clear hk
      exact r_zreturn (b := r10) rfl dX12_seed_33 rfl ⟨_, rfl, hf⟩
  · replace hf := hf.2 hc
    refine r_aload_n (j := 0) rfl rfl dX12_seed_11 ?_
    refine r_iconst (v := 1) (by decide) dX12_seed_12 ?_
    try unfold C_X12_isNot at hf
    obtain ⟨⟨fs_r12, ha_r12⟩, hf⟩ := hf
    refine r_invVZ (t := 12) (As := [aI 1]) (dz := d) (mz := 0) (sz := 0) rfl wd_9_14 wd_9_16 wd_p_102 cf_X12_isNot (Nat.le_refl _) (Nat.zero_le _) (Nat.zero_le _) (cat_ok (Nat.le_of_ble_eq_true rfl)) rfl rfl ha_r12 dX12_seed_13 hf (fun r12 σ11 hk => ?_)
    replace hf := hk
    clear hk
    exact r_zreturn (b := r12) rfl dX12_seed_16 rfl ⟨_, rfl, hf⟩
theorem m_X12_seed {l : Launch} {G : GG} {d : Nat} {v0 : Nat} {v1 : Int32} {σ : Hp} {K : Bool → Hp → Prop} (hr : rv σ v0 12) (hf : F_X12_seed l G d v0 v1 σ K) : C_X12_seed l G (d + 1) v0 v1 σ K := ⟨hr, Sp.of (by decide) (Nat.le_of_ble_eq_true rfl) (b_X12_seed_0 hf) rfl⟩
def F_X12_undo (l : Launch) (G : GG) (d : Nat) (v0 : Nat) (σ : Hp) (K : Bool → Hp → Prop) : Prop :=
  C_X12_clear l G d v0 σ fun σ1 =>
  fI σ1 v0 12 21 fun x3 =>
  (¬ (x3 : Int32) = 0 →
    fI σ1 v0 12 21 fun x4 =>
    pF σ1 v0 12 21 (aI (x4 - 1)) fun σ5 =>
    fN σ5 v0 12 19 fun x7 =>
    fI σ5 v0 12 21 fun x8 =>
    fN σ5 v0 12 17 fun x9 =>
    C_X12_copy l G d x7 (16 * x8) x9 0 16 σ5 fun σ10 =>
    K true σ10) ∧
  ((x3 : Int32) = 0 →
    C_X12_isNot l G d v0 6 σ1 fun r13 σ12 =>
    K r13 σ12)
set_option maxRecDepth 100000 in
set_option maxHeartbeats 4000000 in
theorem b_X12_undo_0 {l : Launch} {G : GG} {d : Nat} {v0 : Nat} {σ : Hp} {K : Bool → Hp → Prop} (hf : F_X12_undo l G d v0 σ K) : Wd l G (d + 1) "CoinsLaidModel" yX12_undo cX12_undo 1 (some FieldType.boolean) 0 [(0, aR (some v0))] [] σ 0 0 (xM (QZ K)) := by
  unfold F_X12_undo at hf
  refine r_aload_n (j := 0) rfl rfl dX12_undo_0 ?_
  try unfold C_X12_clear at hf
  obtain ⟨⟨fs_r2, ha_r2⟩, hf⟩ := hf
  refine r_invVU (t := 12) (As := []) (dz := d) (mz := 0) (sz := 0) rfl wd_7_85 wd_7_87 wd_p_49 cf_X12_clear (Nat.le_refl _) (Nat.zero_le _) (Nat.zero_le _) (cat_ok (Nat.le_of_ble_eq_true rfl)) rfl rfl ha_r2 dX12_undo_1 hf (fun σ1 hk => ?_)
  replace hf := hk
  clear hk
  refine r_aload_n (j := 0) rfl rfl dX12_undo_4 ?_
  obtain ⟨fs_x3, x3, ha_x3, hv_x3, hf⟩ := hf
  refine r_get (Cn := RX12) (Tt := TX12) (N := 42) (n := 21) rfl uw_X12 (Nat.le_of_ble_eq_true rfl) wd_6_207 ha_x3 hv_x3 dX12_undo_5 ?_
  refine r_ifne (x := x3) (tgt := 18) (by decide) dX12_undo_8 (fun hc => ?_) (fun hc => ?_)
  · replace hf := hf.1 hc
    refine r_aload_n (j := 0) rfl rfl dX12_undo_18 ?_
    refine r_dup rfl dX12_undo_19 ?_
    obtain ⟨fs_x4, x4, ha_x4, hv_x4, hf⟩ := hf
    refine r_get (Cn := RX12) (Tt := TX12) (N := 42) (n := 21) rfl uw_X12 (Nat.le_of_ble_eq_true rfl) wd_6_207 ha_x4 hv_x4 dX12_undo_20 ?_
    refine r_iconst (v := 1) (by decide) dX12_undo_23 ?_
    refine r_isub (x := x4) (y := 1) dX12_undo_24 ?_
    obtain ⟨fs_x6, ha_x6, hf⟩ := hf
    generalize hσ5 : hset σ1 v0 (.inl (12, fs_x6.set 21 (aI (x4 - 1)))) = σ5 at hf
    refine r_put (Cn := RX12) (Tt := TX12) (N := 42) (n := 21) (v := aI (x4 - 1)) rfl uw_X12 (Nat.le_of_ble_eq_true rfl) wd_6_207 ha_x6 (ty0 := tyX12) tyX12_ok nmX12 rfl (fo_I (x4 - 1)) dX12_undo_25 ?_
    rw [hσ5]
    refine r_aload_n (j := 0) rfl rfl dX12_undo_28 ?_
    obtain ⟨fs_x7, x7, ha_x7, hv_x7, hf⟩ := hf
    refine r_get (Cn := RX12) (Tt := TX12) (N := 42) (n := 19) rfl uw_X12 (Nat.le_of_ble_eq_true rfl) wd_6_205 ha_x7 hv_x7 dX12_undo_29 ?_
    refine r_bipush (v := 16) (by decide) dX12_undo_32 ?_
    refine r_aload_n (j := 0) rfl rfl dX12_undo_34 ?_
    obtain ⟨fs_x8, x8, ha_x8, hv_x8, hf⟩ := hf
    refine r_get (Cn := RX12) (Tt := TX12) (N := 42) (n := 21) rfl uw_X12 (Nat.le_of_ble_eq_true rfl) wd_6_207 ha_x8 hv_x8 dX12_undo_35 ?_
    refine r_imul (x := 16) (y := x8) dX12_undo_38 ?_
    refine r_aload_n (j := 0) rfl rfl dX12_undo_39 ?_
    obtain ⟨fs_x9, x9, ha_x9, hv_x9, hf⟩ := hf
    refine r_get (Cn := RX12) (Tt := TX12) (N := 42) (n := 17) rfl uw_X12 (Nat.le_of_ble_eq_true rfl) wd_6_203 ha_x9 hv_x9 dX12_undo_40 ?_
    refine r_iconst (v := 0) (by decide) dX12_undo_43 ?_
    refine r_bipush (v := 16) (by decide) dX12_undo_44 ?_
    try unfold C_X12_copy at hf
    refine r_invSU (As := [aR (some x7), aI (16 * x8), aR (some x9), aI 0, aI 16]) (dz := d) (mz := 0) (sz := 0) rfl wd_7_230 wd_7_231 cf_X12_copy (Nat.le_refl _) (Nat.zero_le _) (Nat.zero_le _) (cat_ok (Nat.le_of_ble_eq_true rfl)) dX12_undo_46 hf (fun σ10 hk => ?_)
    replace hf := hk
    clear hk
    refine r_iconst (v := 1) (by decide) dX12_undo_49 ?_
    exact r_zreturn (b := true) rfl dX12_undo_50 rfl ⟨_, rfl, hf⟩
  · replace hf := hf.2 hc
    refine r_aload_n (j := 0) rfl rfl dX12_undo_11 ?_
    refine r_bipush (v := 6) (by decide) dX12_undo_12 ?_
    try unfold C_X12_isNot at hf
    obtain ⟨⟨fs_r13, ha_r13⟩, hf⟩ := hf
    refine r_invVZ (t := 12) (As := [aI 6]) (dz := d) (mz := 0) (sz := 0) rfl wd_9_14 wd_9_16 wd_p_102 cf_X12_isNot (Nat.le_refl _) (Nat.zero_le _) (Nat.zero_le _) (cat_ok (Nat.le_of_ble_eq_true rfl)) rfl rfl ha_r13 dX12_undo_14 hf (fun r13 σ12 hk => ?_)
    replace hf := hk
    clear hk
    exact r_zreturn (b := r13) rfl dX12_undo_17 rfl ⟨_, rfl, hf⟩
theorem m_X12_undo {l : Launch} {G : GG} {d : Nat} {v0 : Nat} {σ : Hp} {K : Bool → Hp → Prop} (hr : rv σ v0 12) (hf : F_X12_undo l G d v0 σ K) : C_X12_undo l G (d + 1) v0 σ K := ⟨hr, Sp.of (by decide) (Nat.le_of_ble_eq_true rfl) (b_X12_undo_0 hf) rfl⟩
def F_X12_image (l : Launch) (G : GG) (d : Nat) (v0 : Nat) (σ : Hp) (K : Int32 → Hp → Prop) : Prop :=
  C_X12_clear l G d v0 σ fun σ1 =>
  fZ σ1 v0 12 14 fun x3 =>
  (x3 = true →
    fI σ1 v0 12 22 fun x4 =>
    (¬ (x4 : Int32) = (3 : Int32) →
      fN σ1 v0 12 17 fun x5 =>
      fN σ1 v0 12 20 fun x6 =>
      fI σ1 v0 12 22 fun x7 =>
      C_X12_copy l G d x5 0 x6 (16 * x7) 16 σ1 fun σ8 =>
      fI σ8 v0 12 22 fun x10 =>
      pF σ8 v0 12 22 (aI (x10 + 1)) fun σ11 =>
      fI σ11 v0 12 22 fun x13 =>
      K (x13 - 1) σ11) ∧
    ((x4 : Int32) = (3 : Int32) →
      C_X12_no l G d v0 3 σ1 fun r15 σ14 =>
      K r15 σ14)) ∧
  (x3 = false →
    C_X12_no l G d v0 1 σ1 fun r17 σ16 =>
    K r17 σ16)
set_option maxRecDepth 100000 in
set_option maxHeartbeats 4000000 in
theorem b_X12_image_0 {l : Launch} {G : GG} {d : Nat} {v0 : Nat} {σ : Hp} {K : Int32 → Hp → Prop} (hf : F_X12_image l G d v0 σ K) : Wd l G (d + 1) "CoinsLaidModel" yX12_image cX12_image 1 (some FieldType.int) 0 [(0, aR (some v0))] [] σ 0 0 (xM (QI K)) := by
  unfold F_X12_image at hf
  refine r_aload_n (j := 0) rfl rfl dX12_image_0 ?_
  try unfold C_X12_clear at hf
  obtain ⟨⟨fs_r2, ha_r2⟩, hf⟩ := hf
  refine r_invVU (t := 12) (As := []) (dz := d) (mz := 0) (sz := 0) rfl wd_7_85 wd_7_87 wd_p_49 cf_X12_clear (Nat.le_refl _) (Nat.zero_le _) (Nat.zero_le _) (cat_ok (Nat.le_of_ble_eq_true rfl)) rfl rfl ha_r2 dX12_image_1 hf (fun σ1 hk => ?_)
  replace hf := hk
  clear hk
  refine r_aload_n (j := 0) rfl rfl dX12_image_4 ?_
  obtain ⟨fs_x3, x3, ha_x3, hv_x3, hf⟩ := hf
  refine r_get (Cn := RX12) (Tt := TX12) (N := 42) (n := 14) rfl uw_X12 (Nat.le_of_ble_eq_true rfl) wd_6_200 ha_x3 hv_x3 dX12_image_5 ?_
  refine r_ifneZ (b := x3) (tgt := 17) (by decide) dX12_image_8 (fun hc => ?_) (fun hc => ?_)
  · replace hf := hf.1 hc
    refine r_aload_n (j := 0) rfl rfl dX12_image_17 ?_
    obtain ⟨fs_x4, x4, ha_x4, hv_x4, hf⟩ := hf
    refine r_get (Cn := RX12) (Tt := TX12) (N := 42) (n := 22) rfl uw_X12 (Nat.le_of_ble_eq_true rfl) wd_6_208 ha_x4 hv_x4 dX12_image_18 ?_
    refine r_iconst (v := 3) (by decide) dX12_image_21 ?_
    refine r_icmpne (x := x4) (y := 3) (tgt := 31) (by decide) dX12_image_22 (fun hc => ?_) (fun hc => ?_)
    · replace hf := hf.1 hc
      refine r_aload_n (j := 0) rfl rfl dX12_image_31 ?_
      obtain ⟨fs_x5, x5, ha_x5, hv_x5, hf⟩ := hf
      refine r_get (Cn := RX12) (Tt := TX12) (N := 42) (n := 17) rfl uw_X12 (Nat.le_of_ble_eq_true rfl) wd_6_203 ha_x5 hv_x5 dX12_image_32 ?_
      refine r_iconst (v := 0) (by decide) dX12_image_35 ?_
      refine r_aload_n (j := 0) rfl rfl dX12_image_36 ?_
      obtain ⟨fs_x6, x6, ha_x6, hv_x6, hf⟩ := hf
      refine r_get (Cn := RX12) (Tt := TX12) (N := 42) (n := 20) rfl uw_X12 (Nat.le_of_ble_eq_true rfl) wd_6_206 ha_x6 hv_x6 dX12_image_37 ?_
      refine r_bipush (v := 16) (by decide) dX12_image_40 ?_
      refine r_aload_n (j := 0) rfl rfl dX12_image_42 ?_
      obtain ⟨fs_x7, x7, ha_x7, hv_x7, hf⟩ := hf
      refine r_get (Cn := RX12) (Tt := TX12) (N := 42) (n := 22) rfl uw_X12 (Nat.le_of_ble_eq_true rfl) wd_6_208 ha_x7 hv_x7 dX12_image_43 ?_
      refine r_imul (x := 16) (y := x7) dX12_image_46 ?_
      refine r_bipush (v := 16) (by decide) dX12_image_47 ?_
      try unfold C_X12_copy at hf
      refine r_invSU (As := [aR (some x5), aI 0, aR (some x6), aI (16 * x7), aI 16]) (dz := d) (mz := 0) (sz := 0) rfl wd_7_230 wd_7_231 cf_X12_copy (Nat.le_refl _) (Nat.zero_le _) (Nat.zero_le _) (cat_ok (Nat.le_of_ble_eq_true rfl)) dX12_image_49 hf (fun σ8 hk => ?_)
      replace hf := hk
      clear hk
      refine r_aload_n (j := 0) rfl rfl dX12_image_52 ?_
      refine r_dup rfl dX12_image_53 ?_
      obtain ⟨fs_x10, x10, ha_x10, hv_x10, hf⟩ := hf
      refine r_get (Cn := RX12) (Tt := TX12) (N := 42) (n := 22) rfl uw_X12 (Nat.le_of_ble_eq_true rfl) wd_6_208 ha_x10 hv_x10 dX12_image_54 ?_
      refine r_iconst (v := 1) (by decide) dX12_image_57 ?_
      refine r_iadd (x := x10) (y := 1) dX12_image_58 ?_
      obtain ⟨fs_x12, ha_x12, hf⟩ := hf
      generalize hσ11 : hset σ8 v0 (.inl (12, fs_x12.set 22 (aI (x10 + 1)))) = σ11 at hf
      refine r_put (Cn := RX12) (Tt := TX12) (N := 42) (n := 22) (v := aI (x10 + 1)) rfl uw_X12 (Nat.le_of_ble_eq_true rfl) wd_6_208 ha_x12 (ty0 := tyX12) tyX12_ok nmX12 rfl (fo_I (x10 + 1)) dX12_image_59 ?_
      rw [hσ11]
      refine r_aload_n (j := 0) rfl rfl dX12_image_62 ?_
      obtain ⟨fs_x13, x13, ha_x13, hv_x13, hf⟩ := hf
      refine r_get (Cn := RX12) (Tt := TX12) (N := 42) (n := 22) rfl uw_X12 (Nat.le_of_ble_eq_true rfl) wd_6_208 ha_x13 hv_x13 dX12_image_63 ?_
      refine r_iconst (v := 1) (by decide) dX12_image_66 ?_
      refine r_isub (x := x13) (y := 1) dX12_image_67 ?_
      exact r_ireturn rfl dX12_image_68 rfl ⟨_, rfl, hf⟩
    · replace hf := hf.2 hc
      refine r_aload_n (j := 0) rfl rfl dX12_image_25 ?_
      refine r_iconst (v := 3) (by decide) dX12_image_26 ?_
      try unfold C_X12_no at hf
      obtain ⟨⟨fs_r15, ha_r15⟩, hf⟩ := hf
      refine r_invVI (t := 12) (As := [aI 3]) (dz := d) (mz := 0) (sz := 0) rfl wd_7_92 wd_7_94 wd_p_50 cf_X12_no (Nat.le_refl _) (Nat.zero_le _) (Nat.zero_le _) (cat_ok (Nat.le_of_ble_eq_true rfl)) rfl rfl ha_r15 dX12_image_27 hf (fun r15 σ14 hk => ?_)
      replace hf := hk
      clear hk
      exact r_ireturn rfl dX12_image_30 rfl ⟨_, rfl, hf⟩
  · replace hf := hf.2 hc
    refine r_aload_n (j := 0) rfl rfl dX12_image_11 ?_
    refine r_iconst (v := 1) (by decide) dX12_image_12 ?_
    try unfold C_X12_no at hf
    obtain ⟨⟨fs_r17, ha_r17⟩, hf⟩ := hf
    refine r_invVI (t := 12) (As := [aI 1]) (dz := d) (mz := 0) (sz := 0) rfl wd_7_92 wd_7_94 wd_p_50 cf_X12_no (Nat.le_refl _) (Nat.zero_le _) (Nat.zero_le _) (cat_ok (Nat.le_of_ble_eq_true rfl)) rfl rfl ha_r17 dX12_image_13 hf (fun r17 σ16 hk => ?_)
    replace hf := hk
    clear hk
    exact r_ireturn rfl dX12_image_16 rfl ⟨_, rfl, hf⟩
theorem m_X12_image {l : Launch} {G : GG} {d : Nat} {v0 : Nat} {σ : Hp} {K : Int32 → Hp → Prop} (hr : rv σ v0 12) (hf : F_X12_image l G d v0 σ K) : C_X12_image l G (d + 1) v0 σ K := ⟨hr, Sp.of (by decide) (Nat.le_of_ble_eq_true rfl) (b_X12_image_0 hf) rfl⟩
def F_X12_back (l : Launch) (G : GG) (d : Nat) (v0 : Nat) (v1 : Int32) (σ : Hp) (K : Bool → Hp → Prop) : Prop :=
  C_X12_clear l G d v0 σ fun σ1 =>
  fI σ1 v0 12 22 fun x3 =>
  C_X12_within l G d v1 0 (x3 - 1) σ1 fun r5 σ4 =>
  (r5 = true →
    fN σ4 v0 12 20 fun x6 =>
    fN σ4 v0 12 17 fun x7 =>
    C_X12_copy l G d x6 (16 * v1) x7 0 16 σ4 fun σ8 =>
    pF σ8 v0 12 21 (aI 0) fun σ10 =>
    K true σ10) ∧
  (r5 = false →
    C_X12_isNot l G d v0 1 σ4 fun r13 σ12 =>
    K r13 σ12)
set_option maxRecDepth 100000 in
set_option maxHeartbeats 4000000 in
theorem b_X12_back_0 {l : Launch} {G : GG} {d : Nat} {v0 : Nat} {v1 : Int32} {σ : Hp} {K : Bool → Hp → Prop} (hf : F_X12_back l G d v0 v1 σ K) : Wd l G (d + 1) "CoinsLaidModel" yX12_back cX12_back 2 (some FieldType.boolean) 0 [(0, aR (some v0)), (1, aI v1)] [] σ 0 0 (xM (QZ K)) := by
  unfold F_X12_back at hf
  refine r_aload_n (j := 0) rfl rfl dX12_back_0 ?_
  try unfold C_X12_clear at hf
  obtain ⟨⟨fs_r2, ha_r2⟩, hf⟩ := hf
  refine r_invVU (t := 12) (As := []) (dz := d) (mz := 0) (sz := 0) rfl wd_7_85 wd_7_87 wd_p_49 cf_X12_clear (Nat.le_refl _) (Nat.zero_le _) (Nat.zero_le _) (cat_ok (Nat.le_of_ble_eq_true rfl)) rfl rfl ha_r2 dX12_back_1 hf (fun σ1 hk => ?_)
  replace hf := hk
  clear hk
  refine r_iload_n (j := 1) rfl rfl dX12_back_4 ?_
  refine r_iconst (v := 0) (by decide) dX12_back_5 ?_
  refine r_aload_n (j := 0) rfl rfl dX12_back_6 ?_
  obtain ⟨fs_x3, x3, ha_x3, hv_x3, hf⟩ := hf
  refine r_get (Cn := RX12) (Tt := TX12) (N := 42) (n := 22) rfl uw_X12 (Nat.le_of_ble_eq_true rfl) wd_6_208 ha_x3 hv_x3 dX12_back_7 ?_
  refine r_iconst (v := 1) (by decide) dX12_back_10 ?_
  refine r_isub (x := x3) (y := 1) dX12_back_11 ?_
  try unfold C_X12_within at hf
  refine r_invSZ (As := [aI v1, aI 0, aI (x3 - 1)]) (dz := d) (mz := 0) (sz := 0) rfl wd_7_89 wd_7_90 cf_X12_within (Nat.le_refl _) (Nat.zero_le _) (Nat.zero_le _) (cat_ok (Nat.le_of_ble_eq_true rfl)) dX12_back_12 hf (fun r5 σ4 hk => ?_)
  replace hf := hk
  clear hk
  refine r_ifneZ (b := r5) (tgt := 24) (by decide) dX12_back_15 (fun hc => ?_) (fun hc => ?_)
  · replace hf := hf.1 hc
    refine r_aload_n (j := 0) rfl rfl dX12_back_24 ?_
    obtain ⟨fs_x6, x6, ha_x6, hv_x6, hf⟩ := hf
    refine r_get (Cn := RX12) (Tt := TX12) (N := 42) (n := 20) rfl uw_X12 (Nat.le_of_ble_eq_true rfl) wd_6_206 ha_x6 hv_x6 dX12_back_25 ?_
    refine r_bipush (v := 16) (by decide) dX12_back_28 ?_
    refine r_iload_n (j := 1) rfl rfl dX12_back_30 ?_
    refine r_imul (x := 16) (y := v1) dX12_back_31 ?_
    refine r_aload_n (j := 0) rfl rfl dX12_back_32 ?_
    obtain ⟨fs_x7, x7, ha_x7, hv_x7, hf⟩ := hf
    refine r_get (Cn := RX12) (Tt := TX12) (N := 42) (n := 17) rfl uw_X12 (Nat.le_of_ble_eq_true rfl) wd_6_203 ha_x7 hv_x7 dX12_back_33 ?_
    refine r_iconst (v := 0) (by decide) dX12_back_36 ?_
    refine r_bipush (v := 16) (by decide) dX12_back_37 ?_
    try unfold C_X12_copy at hf
    refine r_invSU (As := [aR (some x6), aI (16 * v1), aR (some x7), aI 0, aI 16]) (dz := d) (mz := 0) (sz := 0) rfl wd_7_230 wd_7_231 cf_X12_copy (Nat.le_refl _) (Nat.zero_le _) (Nat.zero_le _) (cat_ok (Nat.le_of_ble_eq_true rfl)) dX12_back_39 hf (fun σ8 hk => ?_)
    replace hf := hk
    clear hk
    refine r_aload_n (j := 0) rfl rfl dX12_back_42 ?_
    refine r_iconst (v := 0) (by decide) dX12_back_43 ?_
    obtain ⟨fs_x11, ha_x11, hf⟩ := hf
    generalize hσ10 : hset σ8 v0 (.inl (12, fs_x11.set 21 (aI 0))) = σ10 at hf
    refine r_put (Cn := RX12) (Tt := TX12) (N := 42) (n := 21) (v := aI 0) rfl uw_X12 (Nat.le_of_ble_eq_true rfl) wd_6_207 ha_x11 (ty0 := tyX12) tyX12_ok nmX12 rfl (fo_I 0) dX12_back_44 ?_
    rw [hσ10]
    refine r_iconst (v := 1) (by decide) dX12_back_47 ?_
    exact r_zreturn (b := true) rfl dX12_back_48 rfl ⟨_, rfl, hf⟩
  · replace hf := hf.2 hc
    refine r_aload_n (j := 0) rfl rfl dX12_back_18 ?_
    refine r_iconst (v := 1) (by decide) dX12_back_19 ?_
    try unfold C_X12_isNot at hf
    obtain ⟨⟨fs_r13, ha_r13⟩, hf⟩ := hf
    refine r_invVZ (t := 12) (As := [aI 1]) (dz := d) (mz := 0) (sz := 0) rfl wd_9_14 wd_9_16 wd_p_102 cf_X12_isNot (Nat.le_refl _) (Nat.zero_le _) (Nat.zero_le _) (cat_ok (Nat.le_of_ble_eq_true rfl)) rfl rfl ha_r13 dX12_back_20 hf (fun r13 σ12 hk => ?_)
    replace hf := hk
    clear hk
    exact r_zreturn (b := r13) rfl dX12_back_23 rfl ⟨_, rfl, hf⟩
theorem m_X12_back {l : Launch} {G : GG} {d : Nat} {v0 : Nat} {v1 : Int32} {σ : Hp} {K : Bool → Hp → Prop} (hr : rv σ v0 12) (hf : F_X12_back l G d v0 v1 σ K) : C_X12_back l G (d + 1) v0 v1 σ K := ⟨hr, Sp.of (by decide) (Nat.le_of_ble_eq_true rfl) (b_X12_back_0 hf) rfl⟩
def F_X12_led_37 (l : Launch) (G : GG) (d : Nat) (v0 : Nat) (σ : Hp) (K : Int32 → Hp → Prop) : Prop :=
  pF σ v0 12 0 (aI 1) fun σ1 =>
  K 0 σ1
set_option maxRecDepth 100000 in
set_option maxHeartbeats 4000000 in
theorem b_X12_led_37 {l : Launch} {G : GG} {d : Nat} {v0 : Nat} {σ : Hp} {K : Int32 → Hp → Prop} (hf : F_X12_led_37 l G d v0 σ K) : Wd l G (d + 1) "CoinsLaidModel" yX12_led cX12_led 2 (some FieldType.int) 37 [(0, aR (some v0))] [] σ 0 0 (xM (QI K)) := by
  unfold F_X12_led_37 at hf
  refine r_aload_n (j := 0) rfl rfl dX12_led_37 ?_
  refine r_iconst (v := 1) (by decide) dX12_led_38 ?_
  obtain ⟨fs_x2, ha_x2, hf⟩ := hf
  generalize hσ1 : hset σ v0 (.inl (12, fs_x2.set 0 (aI 1))) = σ1 at hf
  refine r_put (Cn := RX12) (Tt := TX12) (N := 42) (n := 0) (v := aI 1) rfl uw_X12 (Nat.le_of_ble_eq_true rfl) wd_6_186 ha_x2 (ty0 := tyX12) tyX12_ok nmX12 rfl (fo_I 1) dX12_led_39 ?_
  rw [hσ1]
  refine r_iconst (v := 0) (by decide) dX12_led_42 ?_
  exact r_ireturn rfl dX12_led_43 rfl ⟨_, rfl, hf⟩
def F_X12_led (l : Launch) (G : GG) (d : Nat) (v0 : Nat) (v1 : Int32) (σ : Hp) (K : Int32 → Hp → Prop) : Prop :=
  fZ σ v0 12 14 fun x3 =>
  (x3 = false →
    F_X12_led_37 l G d v0 σ K) ∧
  (x3 = true →
    fN σ v0 12 17 fun x4 =>
    gI σ x4 0 fun x5 =>
    C_X12_within l G d v1 0 (x5 - 1) σ fun r7 σ6 =>
    (r7 = false →
      F_X12_led_37 l G d v0 σ6 K) ∧
    (r7 = true →
      pF σ6 v0 12 0 (aI 0) fun σ8 =>
      fN σ8 v0 12 17 fun x10 =>
      gI σ8 x10 (1 + v1) fun x11 =>
      K x11 σ8))
set_option maxRecDepth 100000 in
set_option maxHeartbeats 4000000 in
theorem b_X12_led_0 {l : Launch} {G : GG} {d : Nat} {v0 : Nat} {v1 : Int32} {σ : Hp} {K : Int32 → Hp → Prop} (hf : F_X12_led l G d v0 v1 σ K) : Wd l G (d + 1) "CoinsLaidModel" yX12_led cX12_led 2 (some FieldType.int) 0 [(0, aR (some v0)), (1, aI v1)] [] σ 0 0 (xM (QI K)) := by
  unfold F_X12_led at hf
  refine r_aload_n (j := 0) rfl rfl dX12_led_0 ?_
  obtain ⟨fs_x3, x3, ha_x3, hv_x3, hf⟩ := hf
  refine r_get (Cn := RX12) (Tt := TX12) (N := 42) (n := 14) rfl uw_X12 (Nat.le_of_ble_eq_true rfl) wd_6_200 ha_x3 hv_x3 dX12_led_1 ?_
  refine r_ifeqZ (b := x3) (tgt := 37) (by decide) dX12_led_4 (fun hc => ?_) (fun hc => ?_)
  · replace hf := hf.1 hc
    exact r_sub [0] rfl (b_X12_led_37 hf)
  · replace hf := hf.2 hc
    refine r_iload_n (j := 1) rfl rfl dX12_led_7 ?_
    refine r_iconst (v := 0) (by decide) dX12_led_8 ?_
    refine r_aload_n (j := 0) rfl rfl dX12_led_9 ?_
    obtain ⟨fs_x4, x4, ha_x4, hv_x4, hf⟩ := hf
    refine r_get (Cn := RX12) (Tt := TX12) (N := 42) (n := 17) rfl uw_X12 (Nat.le_of_ble_eq_true rfl) wd_6_203 ha_x4 hv_x4 dX12_led_10 ?_
    refine r_iconst (v := 0) (by decide) dX12_led_13 ?_
    obtain ⟨N_x5, f_x5, ha_x5, hi_x5, hf⟩ := hf
    refine r_iald ha_x5 hi_x5 dX12_led_14 ?_
    generalize f_x5 (0 : Int32).toNatClampNeg = x5 at hf ⊢
    refine r_iconst (v := 1) (by decide) dX12_led_15 ?_
    refine r_isub (x := x5) (y := 1) dX12_led_16 ?_
    try unfold C_X12_within at hf
    refine r_invSZ (As := [aI v1, aI 0, aI (x5 - 1)]) (dz := d) (mz := 0) (sz := 0) rfl wd_7_89 wd_7_90 cf_X12_within (Nat.le_refl _) (Nat.zero_le _) (Nat.zero_le _) (cat_ok (Nat.le_of_ble_eq_true rfl)) dX12_led_17 hf (fun r7 σ6 hk => ?_)
    replace hf := hk
    clear hk
    refine r_ifeqZ (b := r7) (tgt := 37) (by decide) dX12_led_20 (fun hc => ?_) (fun hc => ?_)
    · replace hf := hf.1 hc
      exact r_sub [0] rfl (b_X12_led_37 hf)
    · replace hf := hf.2 hc
      refine r_aload_n (j := 0) rfl rfl dX12_led_23 ?_
      refine r_iconst (v := 0) (by decide) dX12_led_24 ?_
      obtain ⟨fs_x9, ha_x9, hf⟩ := hf
      generalize hσ8 : hset σ6 v0 (.inl (12, fs_x9.set 0 (aI 0))) = σ8 at hf
      refine r_put (Cn := RX12) (Tt := TX12) (N := 42) (n := 0) (v := aI 0) rfl uw_X12 (Nat.le_of_ble_eq_true rfl) wd_6_186 ha_x9 (ty0 := tyX12) tyX12_ok nmX12 rfl (fo_I 0) dX12_led_25 ?_
      rw [hσ8]
      refine r_aload_n (j := 0) rfl rfl dX12_led_28 ?_
      obtain ⟨fs_x10, x10, ha_x10, hv_x10, hf⟩ := hf
      refine r_get (Cn := RX12) (Tt := TX12) (N := 42) (n := 17) rfl uw_X12 (Nat.le_of_ble_eq_true rfl) wd_6_203 ha_x10 hv_x10 dX12_led_29 ?_
      refine r_iconst (v := 1) (by decide) dX12_led_32 ?_
      refine r_iload_n (j := 1) rfl rfl dX12_led_33 ?_
      refine r_iadd (x := 1) (y := v1) dX12_led_34 ?_
      obtain ⟨N_x11, f_x11, ha_x11, hi_x11, hf⟩ := hf
      refine r_iald ha_x11 hi_x11 dX12_led_35 ?_
      generalize f_x11 ((1 + v1) : Int32).toNatClampNeg = x11 at hf ⊢
      exact r_ireturn rfl dX12_led_36 rfl ⟨_, rfl, hf⟩
theorem m_X12_led {l : Launch} {G : GG} {d : Nat} {v0 : Nat} {v1 : Int32} {σ : Hp} {K : Int32 → Hp → Prop} (hr : rv σ v0 12) (hf : F_X12_led l G d v0 v1 σ K) : C_X12_led l G (d + 1) v0 v1 σ K := ⟨hr, Sp.of (by decide) (Nat.le_of_ble_eq_true rfl) (b_X12_led_0 hf) rfl⟩
def F_X12_told_38 (l : Launch) (G : GG) (d : Nat) (s0 : Int32) (σ : Hp) (K : Int32 → Hp → Prop) : Prop :=
  K s0 σ
set_option maxRecDepth 100000 in
set_option maxHeartbeats 4000000 in
theorem b_X12_told_38 {l : Launch} {G : GG} {d : Nat} {s0 : Int32} {σ : Hp} {K : Int32 → Hp → Prop} (hf : F_X12_told_38 l G d s0 σ K) : Wd l G (d + 1) "CoinsLaidModel" yX12_told cX12_told 2 (some FieldType.int) 38 [] [aI s0] σ 0 0 (xM (QI K)) := by
  unfold F_X12_told_38 at hf
  exact r_ireturn rfl dX12_told_38 rfl ⟨_, rfl, hf⟩
def F_X12_told (l : Launch) (G : GG) (d : Nat) (v0 : Nat) (v1 : Int32) (σ : Hp) (K : Int32 → Hp → Prop) : Prop :=
  pF σ v0 12 0 (aI 0) fun σ1 =>
  (¬ (v1 : Int32) = (11 : Int32) →
    fZ σ1 v0 12 14 fun x3 =>
    (x3 = true →
      ((v1 : Int32) = 0 →
        fN σ1 v0 12 15 fun x4 =>
        gI σ1 x4 3 fun x5 =>
        K x5 σ1) ∧
      ((v1 : Int32) = 1 →
        fN σ1 v0 12 15 fun x6 =>
        gI σ1 x6 4 fun x7 =>
        K x7 σ1) ∧
      ((v1 : Int32) = 2 →
        fN σ1 v0 12 15 fun x8 =>
        gI σ1 x8 5 fun x9 =>
        K x9 σ1) ∧
      ((v1 : Int32) = 3 →
        fN σ1 v0 12 15 fun x10 =>
        gI σ1 x10 6 fun x11 =>
        K x11 σ1) ∧
      ((v1 : Int32) = 4 →
        fN σ1 v0 12 15 fun x12 =>
        gI σ1 x12 1 fun x13 =>
        K x13 σ1) ∧
      ((v1 : Int32) = 5 →
        fN σ1 v0 12 15 fun x14 =>
        gI σ1 x14 2 fun x15 =>
        K x15 σ1) ∧
      ((v1 : Int32) = 6 →
        fN σ1 v0 12 17 fun x16 =>
        gI σ1 x16 0 fun x17 =>
        K x17 σ1) ∧
      ((v1 : Int32) = 7 →
        fN σ1 v0 12 17 fun x18 =>
        gI σ1 x18 0 fun x19 =>
        ¬ (2 : Int32) = 0 ∧
        K (x19 - x19 / 2 * 2) σ1) ∧
      ((v1 : Int32) = 8 →
        fN σ1 v0 12 17 fun x20 =>
        gI σ1 x20 15 fun x21 =>
        K x21 σ1) ∧
      ((v1 : Int32) = 9 →
        fI σ1 v0 12 21 fun x22 =>
        K x22 σ1) ∧
      ((v1 : Int32) = 10 →
        fI σ1 v0 12 22 fun x23 =>
        K x23 σ1) ∧
      (¬ (v1 : Int32) = 0 → ¬ (v1 : Int32) = 1 → ¬ (v1 : Int32) = 2 → ¬ (v1 : Int32) = 3 → ¬ (v1 : Int32) = 4 → ¬ (v1 : Int32) = 5 → ¬ (v1 : Int32) = 6 → ¬ (v1 : Int32) = 7 → ¬ (v1 : Int32) = 8 → ¬ (v1 : Int32) = 9 → ¬ (v1 : Int32) = 10 →
        K (-1) σ1)) ∧
    (x3 = false →
      C_X12_within l G d v1 0 10 σ1 fun r25 σ24 =>
      (r25 = false →
        F_X12_told_38 l G d (-1) σ24 K) ∧
      (r25 = true →
        F_X12_told_38 l G d 0 σ24 K))) ∧
  ((v1 : Int32) = (11 : Int32) →
    fI σ1 v0 12 2 fun x26 =>
    K x26 σ1)
set_option maxRecDepth 100000 in
set_option maxHeartbeats 4000000 in
theorem b_X12_told_0 {l : Launch} {G : GG} {d : Nat} {v0 : Nat} {v1 : Int32} {σ : Hp} {K : Int32 → Hp → Prop} (hf : F_X12_told l G d v0 v1 σ K) : Wd l G (d + 1) "CoinsLaidModel" yX12_told cX12_told 2 (some FieldType.int) 0 [(0, aR (some v0)), (1, aI v1)] [] σ 0 0 (xM (QI K)) := by
  unfold F_X12_told at hf
  refine r_aload_n (j := 0) rfl rfl dX12_told_0 ?_
  refine r_iconst (v := 0) (by decide) dX12_told_1 ?_
  obtain ⟨fs_x2, ha_x2, hf⟩ := hf
  generalize hσ1 : hset σ v0 (.inl (12, fs_x2.set 0 (aI 0))) = σ1 at hf
  refine r_put (Cn := RX12) (Tt := TX12) (N := 42) (n := 0) (v := aI 0) rfl uw_X12 (Nat.le_of_ble_eq_true rfl) wd_6_186 ha_x2 (ty0 := tyX12) tyX12_ok nmX12 rfl (fo_I 0) dX12_told_2 ?_
  rw [hσ1]
  refine r_iload_n (j := 1) rfl rfl dX12_told_5 ?_
  refine r_bipush (v := 11) (by decide) dX12_told_6 ?_
  refine r_icmpne (x := v1) (y := 11) (tgt := 16) (by decide) dX12_told_8 (fun hc => ?_) (fun hc => ?_)
  · replace hf := hf.1 hc
    refine r_aload_n (j := 0) rfl rfl dX12_told_16 ?_
    obtain ⟨fs_x3, x3, ha_x3, hv_x3, hf⟩ := hf
    refine r_get (Cn := RX12) (Tt := TX12) (N := 42) (n := 14) rfl uw_X12 (Nat.le_of_ble_eq_true rfl) wd_6_200 ha_x3 hv_x3 dX12_told_17 ?_
    refine r_ifneZ (b := x3) (tgt := 39) (by decide) dX12_told_20 (fun hc => ?_) (fun hc => ?_)
    · replace hf := hf.1 hc
      refine r_iload_n (j := 1) rfl rfl dX12_told_39 ?_
      by_cases hc0 : (v1 : Int32) = 0
      · replace hf := hf.1 hc0
        refine r_tabIn (tgt := 100) (off := 60) (by rw [hc0]; decide) (by rw [hc0]; decide) (by rw [hc0]; decide) (by decide) dX12_told_40 ?_
        refine r_aload_n (j := 0) rfl rfl dX12_told_100 ?_
        obtain ⟨fs_x4, x4, ha_x4, hv_x4, hf⟩ := hf
        refine r_get (Cn := RX12) (Tt := TX12) (N := 42) (n := 15) rfl uw_X12 (Nat.le_of_ble_eq_true rfl) wd_6_201 ha_x4 hv_x4 dX12_told_101 ?_
        refine r_iconst (v := 3) (by decide) dX12_told_104 ?_
        obtain ⟨N_x5, f_x5, ha_x5, hi_x5, hf⟩ := hf
        refine r_iald ha_x5 hi_x5 dX12_told_105 ?_
        generalize f_x5 (3 : Int32).toNatClampNeg = x5 at hf ⊢
        exact r_ireturn rfl dX12_told_106 rfl ⟨_, rfl, hf⟩
      by_cases hc1 : (v1 : Int32) = 1
      · replace hf := hf.2.1 hc1
        refine r_tabIn (tgt := 107) (off := 67) (by rw [hc1]; decide) (by rw [hc1]; decide) (by rw [hc1]; decide) (by decide) dX12_told_40 ?_
        refine r_aload_n (j := 0) rfl rfl dX12_told_107 ?_
        obtain ⟨fs_x6, x6, ha_x6, hv_x6, hf⟩ := hf
        refine r_get (Cn := RX12) (Tt := TX12) (N := 42) (n := 15) rfl uw_X12 (Nat.le_of_ble_eq_true rfl) wd_6_201 ha_x6 hv_x6 dX12_told_108 ?_
        refine r_iconst (v := 4) (by decide) dX12_told_111 ?_
        obtain ⟨N_x7, f_x7, ha_x7, hi_x7, hf⟩ := hf
        refine r_iald ha_x7 hi_x7 dX12_told_112 ?_
        generalize f_x7 (4 : Int32).toNatClampNeg = x7 at hf ⊢
        exact r_ireturn rfl dX12_told_113 rfl ⟨_, rfl, hf⟩
      by_cases hc2 : (v1 : Int32) = 2
      · replace hf := hf.2.2.1 hc2
        refine r_tabIn (tgt := 114) (off := 74) (by rw [hc2]; decide) (by rw [hc2]; decide) (by rw [hc2]; decide) (by decide) dX12_told_40 ?_
        refine r_aload_n (j := 0) rfl rfl dX12_told_114 ?_
        obtain ⟨fs_x8, x8, ha_x8, hv_x8, hf⟩ := hf
        refine r_get (Cn := RX12) (Tt := TX12) (N := 42) (n := 15) rfl uw_X12 (Nat.le_of_ble_eq_true rfl) wd_6_201 ha_x8 hv_x8 dX12_told_115 ?_
        refine r_iconst (v := 5) (by decide) dX12_told_118 ?_
        obtain ⟨N_x9, f_x9, ha_x9, hi_x9, hf⟩ := hf
        refine r_iald ha_x9 hi_x9 dX12_told_119 ?_
        generalize f_x9 (5 : Int32).toNatClampNeg = x9 at hf ⊢
        exact r_ireturn rfl dX12_told_120 rfl ⟨_, rfl, hf⟩
      by_cases hc3 : (v1 : Int32) = 3
      · replace hf := hf.2.2.2.1 hc3
        refine r_tabIn (tgt := 121) (off := 81) (by rw [hc3]; decide) (by rw [hc3]; decide) (by rw [hc3]; decide) (by decide) dX12_told_40 ?_
        refine r_aload_n (j := 0) rfl rfl dX12_told_121 ?_
        obtain ⟨fs_x10, x10, ha_x10, hv_x10, hf⟩ := hf
        refine r_get (Cn := RX12) (Tt := TX12) (N := 42) (n := 15) rfl uw_X12 (Nat.le_of_ble_eq_true rfl) wd_6_201 ha_x10 hv_x10 dX12_told_122 ?_
        refine r_bipush (v := 6) (by decide) dX12_told_125 ?_
        obtain ⟨N_x11, f_x11, ha_x11, hi_x11, hf⟩ := hf
        refine r_iald ha_x11 hi_x11 dX12_told_127 ?_
        generalize f_x11 (6 : Int32).toNatClampNeg = x11 at hf ⊢
        exact r_ireturn rfl dX12_told_128 rfl ⟨_, rfl, hf⟩
      by_cases hc4 : (v1 : Int32) = 4
      · replace hf := hf.2.2.2.2.1 hc4
        refine r_tabIn (tgt := 129) (off := 89) (by rw [hc4]; decide) (by rw [hc4]; decide) (by rw [hc4]; decide) (by decide) dX12_told_40 ?_
        refine r_aload_n (j := 0) rfl rfl dX12_told_129 ?_
        obtain ⟨fs_x12, x12, ha_x12, hv_x12, hf⟩ := hf
        refine r_get (Cn := RX12) (Tt := TX12) (N := 42) (n := 15) rfl uw_X12 (Nat.le_of_ble_eq_true rfl) wd_6_201 ha_x12 hv_x12 dX12_told_130 ?_
        refine r_iconst (v := 1) (by decide) dX12_told_133 ?_
        obtain ⟨N_x13, f_x13, ha_x13, hi_x13, hf⟩ := hf
        refine r_iald ha_x13 hi_x13 dX12_told_134 ?_
        generalize f_x13 (1 : Int32).toNatClampNeg = x13 at hf ⊢
        exact r_ireturn rfl dX12_told_135 rfl ⟨_, rfl, hf⟩
      by_cases hc5 : (v1 : Int32) = 5
      · replace hf := hf.2.2.2.2.2.1 hc5
        refine r_tabIn (tgt := 136) (off := 96) (by rw [hc5]; decide) (by rw [hc5]; decide) (by rw [hc5]; decide) (by decide) dX12_told_40 ?_
        refine r_aload_n (j := 0) rfl rfl dX12_told_136 ?_
        obtain ⟨fs_x14, x14, ha_x14, hv_x14, hf⟩ := hf
        refine r_get (Cn := RX12) (Tt := TX12) (N := 42) (n := 15) rfl uw_X12 (Nat.le_of_ble_eq_true rfl) wd_6_201 ha_x14 hv_x14 dX12_told_137 ?_
        refine r_iconst (v := 2) (by decide) dX12_told_140 ?_
        obtain ⟨N_x15, f_x15, ha_x15, hi_x15, hf⟩ := hf
        refine r_iald ha_x15 hi_x15 dX12_told_141 ?_
        generalize f_x15 (2 : Int32).toNatClampNeg = x15 at hf ⊢
        exact r_ireturn rfl dX12_told_142 rfl ⟨_, rfl, hf⟩
      by_cases hc6 : (v1 : Int32) = 6
      · replace hf := hf.2.2.2.2.2.2.1 hc6
        refine r_tabIn (tgt := 143) (off := 103) (by rw [hc6]; decide) (by rw [hc6]; decide) (by rw [hc6]; decide) (by decide) dX12_told_40 ?_
        refine r_aload_n (j := 0) rfl rfl dX12_told_143 ?_
        obtain ⟨fs_x16, x16, ha_x16, hv_x16, hf⟩ := hf
        refine r_get (Cn := RX12) (Tt := TX12) (N := 42) (n := 17) rfl uw_X12 (Nat.le_of_ble_eq_true rfl) wd_6_203 ha_x16 hv_x16 dX12_told_144 ?_
        refine r_iconst (v := 0) (by decide) dX12_told_147 ?_
        obtain ⟨N_x17, f_x17, ha_x17, hi_x17, hf⟩ := hf
        refine r_iald ha_x17 hi_x17 dX12_told_148 ?_
        generalize f_x17 (0 : Int32).toNatClampNeg = x17 at hf ⊢
        exact r_ireturn rfl dX12_told_149 rfl ⟨_, rfl, hf⟩
      by_cases hc7 : (v1 : Int32) = 7
      · replace hf := hf.2.2.2.2.2.2.2.1 hc7
        refine r_tabIn (tgt := 150) (off := 110) (by rw [hc7]; decide) (by rw [hc7]; decide) (by rw [hc7]; decide) (by decide) dX12_told_40 ?_
        refine r_aload_n (j := 0) rfl rfl dX12_told_150 ?_
        obtain ⟨fs_x18, x18, ha_x18, hv_x18, hf⟩ := hf
        refine r_get (Cn := RX12) (Tt := TX12) (N := 42) (n := 17) rfl uw_X12 (Nat.le_of_ble_eq_true rfl) wd_6_203 ha_x18 hv_x18 dX12_told_151 ?_
        refine r_iconst (v := 0) (by decide) dX12_told_154 ?_
        obtain ⟨N_x19, f_x19, ha_x19, hi_x19, hf⟩ := hf
        refine r_iald ha_x19 hi_x19 dX12_told_155 ?_
        generalize f_x19 (0 : Int32).toNatClampNeg = x19 at hf ⊢
        refine r_iconst (v := 2) (by decide) dX12_told_156 ?_
        obtain ⟨hne, hf⟩ := hf
        refine r_irem hne dX12_told_157 ?_
        exact r_ireturn rfl dX12_told_158 rfl ⟨_, rfl, hf⟩
      by_cases hc8 : (v1 : Int32) = 8
      · replace hf := hf.2.2.2.2.2.2.2.2.1 hc8
        refine r_tabIn (tgt := 159) (off := 119) (by rw [hc8]; decide) (by rw [hc8]; decide) (by rw [hc8]; decide) (by decide) dX12_told_40 ?_
        refine r_aload_n (j := 0) rfl rfl dX12_told_159 ?_
        obtain ⟨fs_x20, x20, ha_x20, hv_x20, hf⟩ := hf
        refine r_get (Cn := RX12) (Tt := TX12) (N := 42) (n := 17) rfl uw_X12 (Nat.le_of_ble_eq_true rfl) wd_6_203 ha_x20 hv_x20 dX12_told_160 ?_
        refine r_bipush (v := 15) (by decide) dX12_told_163 ?_
        obtain ⟨N_x21, f_x21, ha_x21, hi_x21, hf⟩ := hf
        refine r_iald ha_x21 hi_x21 dX12_told_165 ?_
        generalize f_x21 (15 : Int32).toNatClampNeg = x21 at hf ⊢
        exact r_ireturn rfl dX12_told_166 rfl ⟨_, rfl, hf⟩
      by_cases hc9 : (v1 : Int32) = 9
      · replace hf := hf.2.2.2.2.2.2.2.2.2.1 hc9
        refine r_tabIn (tgt := 167) (off := 127) (by rw [hc9]; decide) (by rw [hc9]; decide) (by rw [hc9]; decide) (by decide) dX12_told_40 ?_
        refine r_aload_n (j := 0) rfl rfl dX12_told_167 ?_
        obtain ⟨fs_x22, x22, ha_x22, hv_x22, hf⟩ := hf
        refine r_get (Cn := RX12) (Tt := TX12) (N := 42) (n := 21) rfl uw_X12 (Nat.le_of_ble_eq_true rfl) wd_6_207 ha_x22 hv_x22 dX12_told_168 ?_
        exact r_ireturn rfl dX12_told_171 rfl ⟨_, rfl, hf⟩
      by_cases hc10 : (v1 : Int32) = 10
      · replace hf := hf.2.2.2.2.2.2.2.2.2.2.1 hc10
        refine r_tabIn (tgt := 172) (off := 132) (by rw [hc10]; decide) (by rw [hc10]; decide) (by rw [hc10]; decide) (by decide) dX12_told_40 ?_
        refine r_aload_n (j := 0) rfl rfl dX12_told_172 ?_
        obtain ⟨fs_x23, x23, ha_x23, hv_x23, hf⟩ := hf
        refine r_get (Cn := RX12) (Tt := TX12) (N := 42) (n := 22) rfl uw_X12 (Nat.le_of_ble_eq_true rfl) wd_6_208 ha_x23 hv_x23 dX12_told_173 ?_
        exact r_ireturn rfl dX12_told_176 rfl ⟨_, rfl, hf⟩
      replace hf := hf.2.2.2.2.2.2.2.2.2.2.2 hc0 hc1 hc2 hc3 hc4 hc5 hc6 hc7 hc8 hc9 hc10
      refine r_tabOut (x := v1) (tgt := 177) (tab_out (tab_cons (lo' := 1) (tab_ne hc0 (by decide)) (by decide) (tab_cons (lo' := 2) (tab_ne hc1 (by decide)) (by decide) (tab_cons (lo' := 3) (tab_ne hc2 (by decide)) (by decide) (tab_cons (lo' := 4) (tab_ne hc3 (by decide)) (by decide) (tab_cons (lo' := 5) (tab_ne hc4 (by decide)) (by decide) (tab_cons (lo' := 6) (tab_ne hc5 (by decide)) (by decide) (tab_cons (lo' := 7) (tab_ne hc6 (by decide)) (by decide) (tab_cons (lo' := 8) (tab_ne hc7 (by decide)) (by decide) (tab_cons (lo' := 9) (tab_ne hc8 (by decide)) (by decide) (tab_cons (lo' := 10) (tab_ne hc9 (by decide)) (by decide) (tab_cons (lo' := 11) (tab_ne hc10 (by decide)) (by decide) (tab_nil (by decide)))))))))))))) (by decide) dX12_told_40 ?_
      refine r_iconst (v := (-1)) (by decide) dX12_told_177 ?_
      exact r_ireturn rfl dX12_told_178 rfl ⟨_, rfl, hf⟩
    · replace hf := hf.2 hc
      refine r_iload_n (j := 1) rfl rfl dX12_told_23 ?_
      refine r_iconst (v := 0) (by decide) dX12_told_24 ?_
      refine r_bipush (v := 10) (by decide) dX12_told_25 ?_
      try unfold C_X12_within at hf
      refine r_invSZ (As := [aI v1, aI 0, aI 10]) (dz := d) (mz := 0) (sz := 0) rfl wd_7_89 wd_7_90 cf_X12_within (Nat.le_refl _) (Nat.zero_le _) (Nat.zero_le _) (cat_ok (Nat.le_of_ble_eq_true rfl)) dX12_told_27 hf (fun r25 σ24 hk => ?_)
      replace hf := hk
      clear hk
      refine r_ifeqZ (b := r25) (tgt := 37) (by decide) dX12_told_30 (fun hc => ?_) (fun hc => ?_)
      · replace hf := hf.1 hc
        refine r_iconst (v := (-1)) (by decide) dX12_told_37 ?_
        exact r_sub [] rfl (b_X12_told_38 hf)
      · replace hf := hf.2 hc
        refine r_iconst (v := 0) (by decide) dX12_told_33 ?_
        refine r_goto (tgt := 38) (by decide) dX12_told_34 ?_
        exact r_sub [] rfl (b_X12_told_38 hf)
  · replace hf := hf.2 hc
    refine r_aload_n (j := 0) rfl rfl dX12_told_11 ?_
    obtain ⟨fs_x26, x26, ha_x26, hv_x26, hf⟩ := hf
    refine r_get (Cn := RX12) (Tt := TX12) (N := 42) (n := 2) rfl uw_X12 (Nat.le_of_ble_eq_true rfl) wd_6_188 ha_x26 hv_x26 dX12_told_12 ?_
    exact r_ireturn rfl dX12_told_15 rfl ⟨_, rfl, hf⟩
theorem m_X12_told {l : Launch} {G : GG} {d : Nat} {v0 : Nat} {v1 : Int32} {σ : Hp} {K : Int32 → Hp → Prop} (hr : rv σ v0 12) (hf : F_X12_told l G d v0 v1 σ K) : C_X12_told l G (d + 1) v0 v1 σ K := ⟨hr, Sp.of (by decide) (Nat.le_of_ble_eq_true rfl) (b_X12_told_0 hf) rfl⟩
def F_X12_trouble (l : Launch) (G : GG) (d : Nat) (v0 : Nat) (σ : Hp) (K : Int32 → Hp → Prop) : Prop :=
  pF σ v0 12 0 (aI 0) fun σ1 =>
  fI σ1 v0 12 11 fun x3 =>
  K x3 σ1
set_option maxRecDepth 100000 in
set_option maxHeartbeats 4000000 in
theorem b_X12_trouble_0 {l : Launch} {G : GG} {d : Nat} {v0 : Nat} {σ : Hp} {K : Int32 → Hp → Prop} (hf : F_X12_trouble l G d v0 σ K) : Wd l G (d + 1) "CoinsLaidModel" yX12_trouble cX12_trouble 1 (some FieldType.int) 0 [(0, aR (some v0))] [] σ 0 0 (xM (QI K)) := by
  unfold F_X12_trouble at hf
  refine r_aload_n (j := 0) rfl rfl dX12_trouble_0 ?_
  refine r_iconst (v := 0) (by decide) dX12_trouble_1 ?_
  obtain ⟨fs_x2, ha_x2, hf⟩ := hf
  generalize hσ1 : hset σ v0 (.inl (12, fs_x2.set 0 (aI 0))) = σ1 at hf
  refine r_put (Cn := RX12) (Tt := TX12) (N := 42) (n := 0) (v := aI 0) rfl uw_X12 (Nat.le_of_ble_eq_true rfl) wd_6_186 ha_x2 (ty0 := tyX12) tyX12_ok nmX12 rfl (fo_I 0) dX12_trouble_2 ?_
  rw [hσ1]
  refine r_aload_n (j := 0) rfl rfl dX12_trouble_5 ?_
  obtain ⟨fs_x3, x3, ha_x3, hv_x3, hf⟩ := hf
  refine r_get (Cn := RX12) (Tt := TX12) (N := 42) (n := 11) rfl uw_X12 (Nat.le_of_ble_eq_true rfl) wd_6_197 ha_x3 hv_x3 dX12_trouble_6 ?_
  exact r_ireturn rfl dX12_trouble_9 rfl ⟨_, rfl, hf⟩
theorem m_X12_trouble {l : Launch} {G : GG} {d : Nat} {v0 : Nat} {σ : Hp} {K : Int32 → Hp → Prop} (hr : rv σ v0 12) (hf : F_X12_trouble l G d v0 σ K) : C_X12_trouble l G (d + 1) v0 σ K := ⟨hr, Sp.of (by decide) (Nat.le_of_ble_eq_true rfl) (b_X12_trouble_0 hf) rfl⟩
