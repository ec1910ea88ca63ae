/-! 11.jdk: written by wip/whole/gen.py -/
def F_J6_numberOfTrailingZeros_0f7a4_74 (l : Launch) (G : GG) (d : Nat) (v0 : Int32) (v1 : Int32) (σ : Hp) (K : Int32 → Hp → Prop) : Prop :=
  K (v1 + (((v0 : Int32).toUInt32 >>> ((1 : Int32).toUInt32 &&& Int32.toUInt32 31)).toInt32)) σ
set_option maxRecDepth 100000 in
set_option maxHeartbeats 4000000 in
theorem b_J6_numberOfTrailingZeros_0f7a4_74 {l : Launch} {G : GG} {d : Nat} {v0 : Int32} {v1 : Int32} {σ : Hp} {K : Int32 → Hp → Prop} (hf : F_J6_numberOfTrailingZeros_0f7a4_74 l G d v0 v1 σ K) : Wd l G (d + 1) "java/lang/Intege\x72" yJ6_numberOfTrailingZeros_0f7a4 cJ6_numberOfTrailingZeros_0f7a4 2 (some FieldType.int) 74 [(0, aI v0), (1, aI v1)] [] σ 0 0 (xM (QI K)) := by
  unfold F_J6_numberOfTrailingZeros_0f7a4_74 at hf
  refine r_iload_n (j := 1) rfl rfl dJ6_numberOfTrailingZeros_0f7a4_74 ?_
  refine r_iload_n (j := 0) rfl rfl dJ6_numberOfTrailingZeros_0f7a4_75 ?_
  refine r_iconst (v := 1) (by decide) dJ6_numberOfTrailingZeros_0f7a4_76 ?_
  refine r_iushr (x := v0) (y := 1) dJ6_numberOfTrailingZeros_0f7a4_77 ?_
  refine r_iadd (x := v1) (y := (((v0 : Int32).toUInt32 >>> ((1 : Int32).toUInt32 &&& Int32.toUInt32 31)).toInt32)) dJ6_numberOfTrailingZeros_0f7a4_78 ?_
  exact r_ireturn rfl dJ6_numberOfTrailingZeros_0f7a4_79 rfl ⟨_, rfl, hf⟩
def F_J6_numberOfTrailingZeros_0f7a4_62 (l : Launch) (G : GG) (d : Nat) (v0 : Int32) (v1 : Int32) (σ : Hp) (K : Int32 → Hp → Prop) : Prop :=
  ((v0 : Int32) ≤ (4 : Int32) →
    F_J6_numberOfTrailingZeros_0f7a4_74 l G d v0 v1 σ K) ∧
  (¬ (v0 : Int32) ≤ (4 : Int32) →
    F_J6_numberOfTrailingZeros_0f7a4_74 l G d (((v0 : Int32).toUInt32 >>> ((2 : Int32).toUInt32 &&& Int32.toUInt32 31)).toInt32) (v1 + 2) σ K)
set_option maxRecDepth 100000 in
set_option maxHeartbeats 4000000 in
theorem b_J6_numberOfTrailingZeros_0f7a4_62 {l : Launch} {G : GG} {d : Nat} {v0 : Int32} {v1 : Int32} {σ : Hp} {K : Int32 → Hp → Prop} (hf : F_J6_numberOfTrailingZeros_0f7a4_62 l G d v0 v1 σ K) : Wd l G (d + 1) "java/lang/Intege\x72" yJ6_numberOfTrailingZeros_0f7a4 cJ6_numberOfTrailingZeros_0f7a4 2 (some FieldType.int) 62 [(0, aI v0), (1, aI v1)] [] σ 0 0 (xM (QI K)) := by
  unfold F_J6_numberOfTrailingZeros_0f7a4_62 at hf
  refine r_iload_n (j := 0) rfl rfl dJ6_numberOfTrailingZeros_0f7a4_62 ?_
  refine r_iconst (v := 4) (by decide) dJ6_numberOfTrailingZeros_0f7a4_63 ?_
  refine r_icmple (x := v0) (y := 4) (tgt := 74) (by decide) dJ6_numberOfTrailingZeros_0f7a4_64 (fun hc => ?_) (fun hc => ?_)
  · replace hf := hf.1 hc
    exact r_sub [0, 1] rfl (b_J6_numberOfTrailingZeros_0f7a4_74 hf)
  · replace hf := hf.2 hc
    refine r_iinc (j := 1) (w := (v1 + 2)) (L' := [(1, aI (v1 + 2)), (0, aI v0)]) rfl (by rfl) rfl (Nat.le_of_ble_eq_true rfl) dJ6_numberOfTrailingZeros_0f7a4_67 ?_
    refine r_iload_n (j := 1) rfl rfl dJ6_numberOfTrailingZeros_0f7a4_70 ?_
    refine r_iconst (v := 2) (by decide) dJ6_numberOfTrailingZeros_0f7a4_71 ?_
    refine r_iushr (x := v0) (y := 2) dJ6_numberOfTrailingZeros_0f7a4_72 ?_
    refine r_istore_n (L' := [(0, aI (((v0 : Int32).toUInt32 >>> ((2 : Int32).toUInt32 &&& Int32.toUInt32 31)).toInt32)), (1, aI (v1 + 2))]) rfl rfl (Nat.le_of_ble_eq_true rfl) dJ6_numberOfTrailingZeros_0f7a4_73 ?_
    exact r_sub [0, 1] rfl (b_J6_numberOfTrailingZeros_0f7a4_74 hf)
def F_J6_numberOfTrailingZeros_0f7a4_49 (l : Launch) (G : GG) (d : Nat) (v0 : Int32) (v1 : Int32) (σ : Hp) (K : Int32 → Hp → Prop) : Prop :=
  ((v0 : Int32) ≤ (16 : Int32) →
    F_J6_numberOfTrailingZeros_0f7a4_62 l G d v0 v1 σ K) ∧
  (¬ (v0 : Int32) ≤ (16 : Int32) →
    F_J6_numberOfTrailingZeros_0f7a4_62 l G d (((v0 : Int32).toUInt32 >>> ((4 : Int32).toUInt32 &&& Int32.toUInt32 31)).toInt32) (v1 + 4) σ K)
set_option maxRecDepth 100000 in
set_option maxHeartbeats 4000000 in
theorem b_J6_numberOfTrailingZeros_0f7a4_49 {l : Launch} {G : GG} {d : Nat} {v0 : Int32} {v1 : Int32} {σ : Hp} {K : Int32 → Hp → Prop} (hf : F_J6_numberOfTrailingZeros_0f7a4_49 l G d v0 v1 σ K) : Wd l G (d + 1) "java/lang/Intege\x72" yJ6_numberOfTrailingZeros_0f7a4 cJ6_numberOfTrailingZeros_0f7a4 2 (some FieldType.int) 49 [(0, aI v0), (1, aI v1)] [] σ 0 0 (xM (QI K)) := by
  unfold F_J6_numberOfTrailingZeros_0f7a4_49 at hf
  refine r_iload_n (j := 0) rfl rfl dJ6_numberOfTrailingZeros_0f7a4_49 ?_
  refine r_bipush (v := 16) (by decide) dJ6_numberOfTrailingZeros_0f7a4_50 ?_
  refine r_icmple (x := v0) (y := 16) (tgt := 62) (by decide) dJ6_numberOfTrailingZeros_0f7a4_52 (fun hc => ?_) (fun hc => ?_)
  · replace hf := hf.1 hc
    exact r_sub [0, 1] rfl (b_J6_numberOfTrailingZeros_0f7a4_62 hf)
  · replace hf := hf.2 hc
    refine r_iinc (j := 1) (w := (v1 + 4)) (L' := [(1, aI (v1 + 4)), (0, aI v0)]) rfl (by rfl) rfl (Nat.le_of_ble_eq_true rfl) dJ6_numberOfTrailingZeros_0f7a4_55 ?_
    refine r_iload_n (j := 1) rfl rfl dJ6_numberOfTrailingZeros_0f7a4_58 ?_
    refine r_iconst (v := 4) (by decide) dJ6_numberOfTrailingZeros_0f7a4_59 ?_
    refine r_iushr (x := v0) (y := 4) dJ6_numberOfTrailingZeros_0f7a4_60 ?_
    refine r_istore_n (L' := [(0, aI (((v0 : Int32).toUInt32 >>> ((4 : Int32).toUInt32 &&& Int32.toUInt32 31)).toInt32)), (1, aI (v1 + 4))]) rfl rfl (Nat.le_of_ble_eq_true rfl) dJ6_numberOfTrailingZeros_0f7a4_61 ?_
    exact r_sub [0, 1] rfl (b_J6_numberOfTrailingZeros_0f7a4_62 hf)
def F_J6_numberOfTrailingZeros_0f7a4_34 (l : Launch) (G : GG) (d : Nat) (v0 : Int32) (v1 : Int32) (σ : Hp) (K : Int32 → Hp → Prop) : Prop :=
  ((v0 : Int32) ≤ (256 : Int32) →
    F_J6_numberOfTrailingZeros_0f7a4_49 l G d v0 v1 σ K) ∧
  (¬ (v0 : Int32) ≤ (256 : Int32) →
    F_J6_numberOfTrailingZeros_0f7a4_49 l G d (((v0 : Int32).toUInt32 >>> ((8 : Int32).toUInt32 &&& Int32.toUInt32 31)).toInt32) (v1 + 8) σ K)
set_option maxRecDepth 100000 in
set_option maxHeartbeats 4000000 in
theorem b_J6_numberOfTrailingZeros_0f7a4_34 {l : Launch} {G : GG} {d : Nat} {v0 : Int32} {v1 : Int32} {σ : Hp} {K : Int32 → Hp → Prop} (hf : F_J6_numberOfTrailingZeros_0f7a4_34 l G d v0 v1 σ K) : Wd l G (d + 1) "java/lang/Intege\x72" yJ6_numberOfTrailingZeros_0f7a4 cJ6_numberOfTrailingZeros_0f7a4 2 (some FieldType.int) 34 [(0, aI v0), (1, aI v1)] [] σ 0 0 (xM (QI K)) := by
  unfold F_J6_numberOfTrailingZeros_0f7a4_34 at hf
  refine r_iload_n (j := 0) rfl rfl dJ6_numberOfTrailingZeros_0f7a4_34 ?_
  refine r_sipush (v := 256) (by decide) dJ6_numberOfTrailingZeros_0f7a4_35 ?_
  refine r_icmple (x := v0) (y := 256) (tgt := 49) (by decide) dJ6_numberOfTrailingZeros_0f7a4_38 (fun hc => ?_) (fun hc => ?_)
  · replace hf := hf.1 hc
    exact r_sub [0, 1] rfl (b_J6_numberOfTrailingZeros_0f7a4_49 hf)
  · replace hf := hf.2 hc
    refine r_iinc (j := 1) (w := (v1 + 8)) (L' := [(1, aI (v1 + 8)), (0, aI v0)]) rfl (by rfl) rfl (Nat.le_of_ble_eq_true rfl) dJ6_numberOfTrailingZeros_0f7a4_41 ?_
    refine r_iload_n (j := 1) rfl rfl dJ6_numberOfTrailingZeros_0f7a4_44 ?_
    refine r_bipush (v := 8) (by decide) dJ6_numberOfTrailingZeros_0f7a4_45 ?_
    refine r_iushr (x := v0) (y := 8) dJ6_numberOfTrailingZeros_0f7a4_47 ?_
    refine r_istore_n (L' := [(0, aI (((v0 : Int32).toUInt32 >>> ((8 : Int32).toUInt32 &&& Int32.toUInt32 31)).toInt32)), (1, aI (v1 + 8))]) rfl rfl (Nat.le_of_ble_eq_true rfl) dJ6_numberOfTrailingZeros_0f7a4_48 ?_
    exact r_sub [0, 1] rfl (b_J6_numberOfTrailingZeros_0f7a4_49 hf)
def F_J6_numberOfTrailingZeros_0f7a4 (l : Launch) (G : GG) (d : Nat) (v0 : Int32) (σ : Hp) (K : Int32 → Hp → Prop) : Prop :=
  (0 < (((v0 ^^^ (-1)) &&& (v0 - 1)) : Int32) →
    ((((v0 ^^^ (-1)) &&& (v0 - 1)) : Int32) ≤ (65536 : Int32) →
      F_J6_numberOfTrailingZeros_0f7a4_34 l G d ((v0 ^^^ (-1)) &&& (v0 - 1)) 1 σ K) ∧
    (¬ (((v0 ^^^ (-1)) &&& (v0 - 1)) : Int32) ≤ (65536 : Int32) →
      F_J6_numberOfTrailingZeros_0f7a4_34 l G d (((((v0 ^^^ (-1)) &&& (v0 - 1)) : Int32).toUInt32 >>> ((16 : Int32).toUInt32 &&& Int32.toUInt32 31)).toInt32) (1 + 16) σ K)) ∧
  (¬ 0 < (((v0 ^^^ (-1)) &&& (v0 - 1)) : Int32) →
    K (((v0 ^^^ (-1)) &&& (v0 - 1)) &&& 32) σ)
set_option maxRecDepth 100000 in
set_option maxHeartbeats 4000000 in
theorem b_J6_numberOfTrailingZeros_0f7a4_0 {l : Launch} {G : GG} {d : Nat} {v0 : Int32} {σ : Hp} {K : Int32 → Hp → Prop} (hf : F_J6_numberOfTrailingZeros_0f7a4 l G d v0 σ K) : Wd l G (d + 1) "java/lang/Intege\x72" yJ6_numberOfTrailingZeros_0f7a4 cJ6_numberOfTrailingZeros_0f7a4 2 (some FieldType.int) 0 [(0, aI v0)] [] σ 0 0 (xM (QI K)) := by
  unfold F_J6_numberOfTrailingZeros_0f7a4 at hf
  refine r_iload_n (j := 0) rfl rfl dJ6_numberOfTrailingZeros_0f7a4_0 ?_
  refine r_iconst (v := (-1)) (by decide) dJ6_numberOfTrailingZeros_0f7a4_1 ?_
  refine r_ixor (x := v0) (y := (-1)) dJ6_numberOfTrailingZeros_0f7a4_2 ?_
  refine r_iload_n (j := 0) rfl rfl dJ6_numberOfTrailingZeros_0f7a4_3 ?_
  refine r_iconst (v := 1) (by decide) dJ6_numberOfTrailingZeros_0f7a4_4 ?_
  refine r_isub (x := v0) (y := 1) dJ6_numberOfTrailingZeros_0f7a4_5 ?_
  refine r_iand (x := (v0 ^^^ (-1))) (y := (v0 - 1)) dJ6_numberOfTrailingZeros_0f7a4_6 ?_
  refine r_istore_n (L' := [(0, aI ((v0 ^^^ (-1)) &&& (v0 - 1)))]) rfl rfl (Nat.le_of_ble_eq_true rfl) dJ6_numberOfTrailingZeros_0f7a4_7 ?_
  refine r_iload_n (j := 0) rfl rfl dJ6_numberOfTrailingZeros_0f7a4_8 ?_
  refine r_ifgt (x := ((v0 ^^^ (-1)) &&& (v0 - 1))) (tgt := 17) (by decide) dJ6_numberOfTrailingZeros_0f7a4_9 (fun hc => ?_) (fun hc => ?_)
  · replace hf := hf.1 hc
    refine r_iconst (v := 1) (by decide) dJ6_numberOfTrailingZeros_0f7a4_17 ?_
    refine r_istore_n (L' := [(1, aI 1), (0, aI ((v0 ^^^ (-1)) &&& (v0 - 1)))]) rfl rfl (Nat.le_of_ble_eq_true rfl) dJ6_numberOfTrailingZeros_0f7a4_18 ?_
    refine r_iload_n (j := 1) rfl rfl dJ6_numberOfTrailingZeros_0f7a4_19 ?_
    refine r_ldcw wd_5_84 dJ6_numberOfTrailingZeros_0f7a4_20 ?_
    refine r_icmple (x := ((v0 ^^^ (-1)) &&& (v0 - 1))) (y := 65536) (tgt := 34) (by decide) dJ6_numberOfTrailingZeros_0f7a4_23 (fun hc => ?_) (fun hc => ?_)
    · replace hf := hf.1 hc
      exact r_sub [1, 0] rfl (b_J6_numberOfTrailingZeros_0f7a4_34 hf)
    · replace hf := hf.2 hc
      refine r_iinc (j := 0) (w := (1 + 16)) (L' := [(1, aI (1 + 16)), (0, aI ((v0 ^^^ (-1)) &&& (v0 - 1)))]) rfl (by rfl) rfl (Nat.le_of_ble_eq_true rfl) dJ6_numberOfTrailingZeros_0f7a4_26 ?_
      refine r_iload_n (j := 1) rfl rfl dJ6_numberOfTrailingZeros_0f7a4_29 ?_
      refine r_bipush (v := 16) (by decide) dJ6_numberOfTrailingZeros_0f7a4_30 ?_
      refine r_iushr (x := ((v0 ^^^ (-1)) &&& (v0 - 1))) (y := 16) dJ6_numberOfTrailingZeros_0f7a4_32 ?_
      refine r_istore_n (L' := [(0, aI (((((v0 ^^^ (-1)) &&& (v0 - 1)) : Int32).toUInt32 >>> ((16 : Int32).toUInt32 &&& Int32.toUInt32 31)).toInt32)), (1, aI (1 + 16))]) rfl rfl (Nat.le_of_ble_eq_true rfl) dJ6_numberOfTrailingZeros_0f7a4_33 ?_
      exact r_sub [0, 1] rfl (b_J6_numberOfTrailingZeros_0f7a4_34 hf)
  · replace hf := hf.2 hc
    refine r_iload_n (j := 0) rfl rfl dJ6_numberOfTrailingZeros_0f7a4_12 ?_
    refine r_bipush (v := 32) (by decide) dJ6_numberOfTrailingZeros_0f7a4_13 ?_
    refine r_iand (x := ((v0 ^^^ (-1)) &&& (v0 - 1))) (y := 32) dJ6_numberOfTrailingZeros_0f7a4_15 ?_
    exact r_ireturn rfl dJ6_numberOfTrailingZeros_0f7a4_16 rfl ⟨_, rfl, hf⟩
theorem m_J6_numberOfTrailingZeros_0f7a4 {l : Launch} {G : GG} {d : Nat} {v0 : Int32} {σ : Hp} {K : Int32 → Hp → Prop} (hf : F_J6_numberOfTrailingZeros_0f7a4 l G d v0 σ K) : C_J6_numberOfTrailingZeros_0f7a4 l G (d + 1) v0 σ K := Sp.of (by decide) (Nat.le_of_ble_eq_true rfl) (b_J6_numberOfTrailingZeros_0f7a4_0 hf) rfl
def F_J6_bitCount_0f7a4 (l : Launch) (G : GG) (d : Nat) (v0 : Int32) (σ : Hp) (K : Int32 → Hp → Prop) : Prop :=
  K ((((((((v0 - ((((v0 : Int32).toUInt32 >>> ((1 : Int32).toUInt32 &&& Int32.toUInt32 31)).toInt32) &&& 1431655765)) &&& 858993459) + (((((v0 - ((((v0 : Int32).toUInt32 >>> ((1 : Int32).toUInt32 &&& Int32.toUInt32 31)).toInt32) &&& 1431655765)) : Int32).toUInt32 >>> ((2 : Int32).toUInt32 &&& Int32.toUInt32 31)).toInt32) &&& 858993459)) + ((((((v0 - ((((v0 : Int32).toUInt32 >>> ((1 : Int32).toUInt32 &&& Int32.toUInt32 31)).toInt32) &&& 1431655765)) &&& 858993459) + (((((v0 - ((((v0 : Int32).toUInt32 >>> ((1 : Int32).toUInt32 &&& Int32.toUInt32 31)).toInt32) &&& 1431655765)) : Int32).toUInt32 >>> ((2 : Int32).toUInt32 &&& Int32.toUInt32 31)).toInt32) &&& 858993459)) : Int32).toUInt32 >>> ((4 : Int32).toUInt32 &&& Int32.toUInt32 31)).toInt32)) &&& 252645135) + ((((((((v0 - ((((v0 : Int32).toUInt32 >>> ((1 : Int32).toUInt32 &&& Int32.toUInt32 31)).toInt32) &&& 1431655765)) &&& 858993459) + (((((v0 - ((((v0 : Int32).toUInt32 >>> ((1 : Int32).toUInt32 &&& Int32.toUInt32 31)).toInt32) &&& 1431655765)) : Int32).toUInt32 >>> ((2 : Int32).toUInt32 &&& Int32.toUInt32 31)).toInt32) &&& 858993459)) + ((((((v0 - ((((v0 : Int32).toUInt32 >>> ((1 : Int32).toUInt32 &&& Int32.toUInt32 31)).toInt32) &&& 1431655765)) &&& 858993459) + (((((v0 - ((((v0 : Int32).toUInt32 >>> ((1 : Int32).toUInt32 &&& Int32.toUInt32 31)).toInt32) &&& 1431655765)) : Int32).toUInt32 >>> ((2 : Int32).toUInt32 &&& Int32.toUInt32 31)).toInt32) &&& 858993459)) : Int32).toUInt32 >>> ((4 : Int32).toUInt32 &&& Int32.toUInt32 31)).toInt32)) &&& 252645135) : Int32).toUInt32 >>> ((8 : Int32).toUInt32 &&& Int32.toUInt32 31)).toInt32)) + (((((((((v0 - ((((v0 : Int32).toUInt32 >>> ((1 : Int32).toUInt32 &&& Int32.toUInt32 31)).toInt32) &&& 1431655765)) &&& 858993459) + (((((v0 - ((((v0 : Int32).toUInt32 >>> ((1 : Int32).toUInt32 &&& Int32.toUInt32 31)).toInt32) &&& 1431655765)) : Int32).toUInt32 >>> ((2 : Int32).toUInt32 &&& Int32.toUInt32 31)).toInt32) &&& 858993459)) + ((((((v0 - ((((v0 : Int32).toUInt32 >>> ((1 : Int32).toUInt32 &&& Int32.toUInt32 31)).toInt32) &&& 1431655765)) &&& 858993459) + (((((v0 - ((((v0 : Int32).toUInt32 >>> ((1 : Int32).toUInt32 &&& Int32.toUInt32 31)).toInt32) &&& 1431655765)) : Int32).toUInt32 >>> ((2 : Int32).toUInt32 &&& Int32.toUInt32 31)).toInt32) &&& 858993459)) : Int32).toUInt32 >>> ((4 : Int32).toUInt32 &&& Int32.toUInt32 31)).toInt32)) &&& 252645135) + ((((((((v0 - ((((v0 : Int32).toUInt32 >>> ((1 : Int32).toUInt32 &&& Int32.toUInt32 31)).toInt32) &&& 1431655765)) &&& 858993459) + (((((v0 - ((((v0 : Int32).toUInt32 >>> ((1 : Int32).toUInt32 &&& Int32.toUInt32 31)).toInt32) &&& 1431655765)) : Int32).toUInt32 >>> ((2 : Int32).toUInt32 &&& Int32.toUInt32 31)).toInt32) &&& 858993459)) + ((((((v0 - ((((v0 : Int32).toUInt32 >>> ((1 : Int32).toUInt32 &&& Int32.toUInt32 31)).toInt32) &&& 1431655765)) &&& 858993459) + (((((v0 - ((((v0 : Int32).toUInt32 >>> ((1 : Int32).toUInt32 &&& Int32.toUInt32 31)).toInt32) &&& 1431655765)) : Int32).toUInt32 >>> ((2 : Int32).toUInt32 &&& Int32.toUInt32 31)).toInt32) &&& 858993459)) : Int32).toUInt32 >>> ((4 : Int32).toUInt32 &&& Int32.toUInt32 31)).toInt32)) &&& 252645135) : Int32).toUInt32 >>> ((8 : Int32).toUInt32 &&& Int32.toUInt32 31)).toInt32)) : Int32).toUInt32 >>> ((16 : Int32).toUInt32 &&& Int32.toUInt32 31)).toInt32)) &&& 63) σ
set_option maxRecDepth 100000 in
set_option maxHeartbeats 4000000 in
theorem b_J6_bitCount_0f7a4_0 {l : Launch} {G : GG} {d : Nat} {v0 : Int32} {σ : Hp} {K : Int32 → Hp → Prop} (hf : F_J6_bitCount_0f7a4 l G d v0 σ K) : Wd l G (d + 1) "java/lang/Intege\x72" yJ6_bitCount_0f7a4 cJ6_bitCount_0f7a4 1 (some FieldType.int) 0 [(0, aI v0)] [] σ 0 0 (xM (QI K)) := by
  unfold F_J6_bitCount_0f7a4 at hf
  refine r_iload_n (j := 0) rfl rfl dJ6_bitCount_0f7a4_0 ?_
  refine r_iload_n (j := 0) rfl rfl dJ6_bitCount_0f7a4_1 ?_
  refine r_iconst (v := 1) (by decide) dJ6_bitCount_0f7a4_2 ?_
  refine r_iushr (x := v0) (y := 1) dJ6_bitCount_0f7a4_3 ?_
  refine r_ldcw wd_6_102 dJ6_bitCount_0f7a4_4 ?_
  refine r_iand (x := (((v0 : Int32).toUInt32 >>> ((1 : Int32).toUInt32 &&& Int32.toUInt32 31)).toInt32)) (y := 1431655765) dJ6_bitCount_0f7a4_7 ?_
  refine r_isub (x := v0) (y := ((((v0 : Int32).toUInt32 >>> ((1 : Int32).toUInt32 &&& Int32.toUInt32 31)).toInt32) &&& 1431655765)) dJ6_bitCount_0f7a4_8 ?_
  refine r_istore_n (L' := [(0, aI (v0 - ((((v0 : Int32).toUInt32 >>> ((1 : Int32).toUInt32 &&& Int32.toUInt32 31)).toInt32) &&& 1431655765)))]) rfl rfl (Nat.le_of_ble_eq_true rfl) dJ6_bitCount_0f7a4_9 ?_
  refine r_iload_n (j := 0) rfl rfl dJ6_bitCount_0f7a4_10 ?_
  refine r_ldcw wd_6_103 dJ6_bitCount_0f7a4_11 ?_
  refine r_iand (x := (v0 - ((((v0 : Int32).toUInt32 >>> ((1 : Int32).toUInt32 &&& Int32.toUInt32 31)).toInt32) &&& 1431655765))) (y := 858993459) dJ6_bitCount_0f7a4_14 ?_
  refine r_iload_n (j := 0) rfl rfl dJ6_bitCount_0f7a4_15 ?_
  refine r_iconst (v := 2) (by decide) dJ6_bitCount_0f7a4_16 ?_
  refine r_iushr (x := (v0 - ((((v0 : Int32).toUInt32 >>> ((1 : Int32).toUInt32 &&& Int32.toUInt32 31)).toInt32) &&& 1431655765))) (y := 2) dJ6_bitCount_0f7a4_17 ?_
  refine r_ldcw wd_6_103 dJ6_bitCount_0f7a4_18 ?_
  refine r_iand (x := ((((v0 - ((((v0 : Int32).toUInt32 >>> ((1 : Int32).toUInt32 &&& Int32.toUInt32 31)).toInt32) &&& 1431655765)) : Int32).toUInt32 >>> ((2 : Int32).toUInt32 &&& Int32.toUInt32 31)).toInt32)) (y := 858993459) dJ6_bitCount_0f7a4_21 ?_
  refine r_iadd (x := ((v0 - ((((v0 : Int32).toUInt32 >>> ((1 : Int32).toUInt32 &&& Int32.toUInt32 31)).toInt32) &&& 1431655765)) &&& 858993459)) (y := (((((v0 - ((((v0 : Int32).toUInt32 >>> ((1 : Int32).toUInt32 &&& Int32.toUInt32 31)).toInt32) &&& 1431655765)) : Int32).toUInt32 >>> ((2 : Int32).toUInt32 &&& Int32.toUInt32 31)).toInt32) &&& 858993459)) dJ6_bitCount_0f7a4_22 ?_
  refine r_istore_n (L' := [(0, aI (((v0 - ((((v0 : Int32).toUInt32 >>> ((1 : Int32).toUInt32 &&& Int32.toUInt32 31)).toInt32) &&& 1431655765)) &&& 858993459) + (((((v0 - ((((v0 : Int32).toUInt32 >>> ((1 : Int32).toUInt32 &&& Int32.toUInt32 31)).toInt32) &&& 1431655765)) : Int32).toUInt32 >>> ((2 : Int32).toUInt32 &&& Int32.toUInt32 31)).toInt32) &&& 858993459)))]) rfl rfl (Nat.le_of_ble_eq_true rfl) dJ6_bitCount_0f7a4_23 ?_
  refine r_iload_n (j := 0) rfl rfl dJ6_bitCount_0f7a4_24 ?_
  refine r_iload_n (j := 0) rfl rfl dJ6_bitCount_0f7a4_25 ?_
  refine r_iconst (v := 4) (by decide) dJ6_bitCount_0f7a4_26 ?_
  refine r_iushr (x := (((v0 - ((((v0 : Int32).toUInt32 >>> ((1 : Int32).toUInt32 &&& Int32.toUInt32 31)).toInt32) &&& 1431655765)) &&& 858993459) + (((((v0 - ((((v0 : Int32).toUInt32 >>> ((1 : Int32).toUInt32 &&& Int32.toUInt32 31)).toInt32) &&& 1431655765)) : Int32).toUInt32 >>> ((2 : Int32).toUInt32 &&& Int32.toUInt32 31)).toInt32) &&& 858993459))) (y := 4) dJ6_bitCount_0f7a4_27 ?_
  refine r_iadd (x := (((v0 - ((((v0 : Int32).toUInt32 >>> ((1 : Int32).toUInt32 &&& Int32.toUInt32 31)).toInt32) &&& 1431655765)) &&& 858993459) + (((((v0 - ((((v0 : Int32).toUInt32 >>> ((1 : Int32).toUInt32 &&& Int32.toUInt32 31)).toInt32) &&& 1431655765)) : Int32).toUInt32 >>> ((2 : Int32).toUInt32 &&& Int32.toUInt32 31)).toInt32) &&& 858993459))) (y := ((((((v0 - ((((v0 : Int32).toUInt32 >>> ((1 : Int32).toUInt32 &&& Int32.toUInt32 31)).toInt32) &&& 1431655765)) &&& 858993459) + (((((v0 - ((((v0 : Int32).toUInt32 >>> ((1 : Int32).toUInt32 &&& Int32.toUInt32 31)).toInt32) &&& 1431655765)) : Int32).toUInt32 >>> ((2 : Int32).toUInt32 &&& Int32.toUInt32 31)).toInt32) &&& 858993459)) : Int32).toUInt32 >>> ((4 : Int32).toUInt32 &&& Int32.toUInt32 31)).toInt32)) dJ6_bitCount_0f7a4_28 ?_
  refine r_ldcw wd_6_104 dJ6_bitCount_0f7a4_29 ?_
  refine r_iand (x := ((((v0 - ((((v0 : Int32).toUInt32 >>> ((1 : Int32).toUInt32 &&& Int32.toUInt32 31)).toInt32) &&& 1431655765)) &&& 858993459) + (((((v0 - ((((v0 : Int32).toUInt32 >>> ((1 : Int32).toUInt32 &&& Int32.toUInt32 31)).toInt32) &&& 1431655765)) : Int32).toUInt32 >>> ((2 : Int32).toUInt32 &&& Int32.toUInt32 31)).toInt32) &&& 858993459)) + ((((((v0 - ((((v0 : Int32).toUInt32 >>> ((1 : Int32).toUInt32 &&& Int32.toUInt32 31)).toInt32) &&& 1431655765)) &&& 858993459) + (((((v0 - ((((v0 : Int32).toUInt32 >>> ((1 : Int32).toUInt32 &&& Int32.toUInt32 31)).toInt32) &&& 1431655765)) : Int32).toUInt32 >>> ((2 : Int32).toUInt32 &&& Int32.toUInt32 31)).toInt32) &&& 858993459)) : Int32).toUInt32 >>> ((4 : Int32).toUInt32 &&& Int32.toUInt32 31)).toInt32))) (y := 252645135) dJ6_bitCount_0f7a4_32 ?_
  refine r_istore_n (L' := [(0, aI (((((v0 - ((((v0 : Int32).toUInt32 >>> ((1 : Int32).toUInt32 &&& Int32.toUInt32 31)).toInt32) &&& 1431655765)) &&& 858993459) + (((((v0 - ((((v0 : Int32).toUInt32 >>> ((1 : Int32).toUInt32 &&& Int32.toUInt32 31)).toInt32) &&& 1431655765)) : Int32).toUInt32 >>> ((2 : Int32).toUInt32 &&& Int32.toUInt32 31)).toInt32) &&& 858993459)) + ((((((v0 - ((((v0 : Int32).toUInt32 >>> ((1 : Int32).toUInt32 &&& Int32.toUInt32 31)).toInt32) &&& 1431655765)) &&& 858993459) + (((((v0 - ((((v0 : Int32).toUInt32 >>> ((1 : Int32).toUInt32 &&& Int32.toUInt32 31)).toInt32) &&& 1431655765)) : Int32).toUInt32 >>> ((2 : Int32).toUInt32 &&& Int32.toUInt32 31)).toInt32) &&& 858993459)) : Int32).toUInt32 >>> ((4 : Int32).toUInt32 &&& Int32.toUInt32 31)).toInt32)) &&& 252645135))]) rfl rfl (Nat.le_of_ble_eq_true rfl) dJ6_bitCount_0f7a4_33 ?_
  refine r_iload_n (j := 0) rfl rfl dJ6_bitCount_0f7a4_34 ?_
  refine r_iload_n (j := 0) rfl rfl dJ6_bitCount_0f7a4_35 ?_
  refine r_bipush (v := 8) (by decide) dJ6_bitCount_0f7a4_36 ?_
  refine r_iushr (x := (((((v0 - ((((v0 : Int32).toUInt32 >>> ((1 : Int32).toUInt32 &&& Int32.toUInt32 31)).toInt32) &&& 1431655765)) &&& 858993459) + (((((v0 - ((((v0 : Int32).toUInt32 >>> ((1 : Int32).toUInt32 &&& Int32.toUInt32 31)).toInt32) &&& 1431655765)) : Int32).toUInt32 >>> ((2 : Int32).toUInt32 &&& Int32.toUInt32 31)).toInt32) &&& 858993459)) + ((((((v0 - ((((v0 : Int32).toUInt32 >>> ((1 : Int32).toUInt32 &&& Int32.toUInt32 31)).toInt32) &&& 1431655765)) &&& 858993459) + (((((v0 - ((((v0 : Int32).toUInt32 >>> ((1 : Int32).toUInt32 &&& Int32.toUInt32 31)).toInt32) &&& 1431655765)) : Int32).toUInt32 >>> ((2 : Int32).toUInt32 &&& Int32.toUInt32 31)).toInt32) &&& 858993459)) : Int32).toUInt32 >>> ((4 : Int32).toUInt32 &&& Int32.toUInt32 31)).toInt32)) &&& 252645135)) (y := 8) dJ6_bitCount_0f7a4_38 ?_
  refine r_iadd (x := (((((v0 - ((((v0 : Int32).toUInt32 >>> ((1 : Int32).toUInt32 &&& Int32.toUInt32 31)).toInt32) &&& 1431655765)) &&& 858993459) + (((((v0 - ((((v0 : Int32).toUInt32 >>> ((1 : Int32).toUInt32 &&& Int32.toUInt32 31)).toInt32) &&& 1431655765)) : Int32).toUInt32 >>> ((2 : Int32).toUInt32 &&& Int32.toUInt32 31)).toInt32) &&& 858993459)) + ((((((v0 - ((((v0 : Int32).toUInt32 >>> ((1 : Int32).toUInt32 &&& Int32.toUInt32 31)).toInt32) &&& 1431655765)) &&& 858993459) + (((((v0 - ((((v0 : Int32).toUInt32 >>> ((1 : Int32).toUInt32 &&& Int32.toUInt32 31)).toInt32) &&& 1431655765)) : Int32).toUInt32 >>> ((2 : Int32).toUInt32 &&& Int32.toUInt32 31)).toInt32) &&& 858993459)) : Int32).toUInt32 >>> ((4 : Int32).toUInt32 &&& Int32.toUInt32 31)).toInt32)) &&& 252645135)) (y := ((((((((v0 - ((((v0 : Int32).toUInt32 >>> ((1 : Int32).toUInt32 &&& Int32.toUInt32 31)).toInt32) &&& 1431655765)) &&& 858993459) + (((((v0 - ((((v0 : Int32).toUInt32 >>> ((1 : Int32).toUInt32 &&& Int32.toUInt32 31)).toInt32) &&& 1431655765)) : Int32).toUInt32 >>> ((2 : Int32).toUInt32 &&& Int32.toUInt32 31)).toInt32) &&& 858993459)) + ((((((v0 - ((((v0 : Int32).toUInt32 >>> ((1 : Int32).toUInt32 &&& Int32.toUInt32 31)).toInt32) &&& 1431655765)) &&& 858993459) + (((((v0 - ((((v0 : Int32).toUInt32 >>> ((1 : Int32).toUInt32 &&& Int32.toUInt32 31)).toInt32) &&& 1431655765)) : Int32).toUInt32 >>> ((2 : Int32).toUInt32 &&& Int32.toUInt32 31)).toInt32) &&& 858993459)) : Int32).toUInt32 >>> ((4 : Int32).toUInt32 &&& Int32.toUInt32 31)).toInt32)) &&& 252645135) : Int32).toUInt32 >>> ((8 : Int32).toUInt32 &&& Int32.toUInt32 31)).toInt32)) dJ6_bitCount_0f7a4_39 ?_
  refine r_istore_n (L' := [(0, aI ((((((v0 - ((((v0 : Int32).toUInt32 >>> ((1 : Int32).toUInt32 &&& Int32.toUInt32 31)).toInt32) &&& 1431655765)) &&& 858993459) + (((((v0 - ((((v0 : Int32).toUInt32 >>> ((1 : Int32).toUInt32 &&& Int32.toUInt32 31)).toInt32) &&& 1431655765)) : Int32).toUInt32 >>> ((2 : Int32).toUInt32 &&& Int32.toUInt32 31)).toInt32) &&& 858993459)) + ((((((v0 - ((((v0 : Int32).toUInt32 >>> ((1 : Int32).toUInt32 &&& Int32.toUInt32 31)).toInt32) &&& 1431655765)) &&& 858993459) + (((((v0 - ((((v0 : Int32).toUInt32 >>> ((1 : Int32).toUInt32 &&& Int32.toUInt32 31)).toInt32) &&& 1431655765)) : Int32).toUInt32 >>> ((2 : Int32).toUInt32 &&& Int32.toUInt32 31)).toInt32) &&& 858993459)) : Int32).toUInt32 >>> ((4 : Int32).toUInt32 &&& Int32.toUInt32 31)).toInt32)) &&& 252645135) + ((((((((v0 - ((((v0 : Int32).toUInt32 >>> ((1 : Int32).toUInt32 &&& Int32.toUInt32 31)).toInt32) &&& 1431655765)) &&& 858993459) + (((((v0 - ((((v0 : Int32).toUInt32 >>> ((1 : Int32).toUInt32 &&& Int32.toUInt32 31)).toInt32) &&& 1431655765)) : Int32).toUInt32 >>> ((2 : Int32).toUInt32 &&& Int32.toUInt32 31)).toInt32) &&& 858993459)) + ((((((v0 - ((((v0 : Int32).toUInt32 >>> ((1 : Int32).toUInt32 &&& Int32.toUInt32 31)).toInt32) &&& 1431655765)) &&& 858993459) + (((((v0 - ((((v0 : Int32).toUInt32 >>> ((1 : Int32).toUInt32 &&& Int32.toUInt32 31)).toInt32) &&& 1431655765)) : Int32).toUInt32 >>> ((2 : Int32).toUInt32 &&& Int32.toUInt32 31)).toInt32) &&& 858993459)) : Int32).toUInt32 >>> ((4 : Int32).toUInt32 &&& Int32.toUInt32 31)).toInt32)) &&& 252645135) : Int32).toUInt32 >>> ((8 : Int32).toUInt32 &&& Int32.toUInt32 31)).toInt32)))]) rfl rfl (Nat.le_of_ble_eq_true rfl) dJ6_bitCount_0f7a4_40 ?_
  refine r_iload_n (j := 0) rfl rfl dJ6_bitCount_0f7a4_41 ?_
  refine r_iload_n (j := 0) rfl rfl dJ6_bitCount_0f7a4_42 ?_
  refine r_bipush (v := 16) (by decide) dJ6_bitCount_0f7a4_43 ?_
  refine r_iushr (x := ((((((v0 - ((((v0 : Int32).toUInt32 >>> ((1 : Int32).toUInt32 &&& Int32.toUInt32 31)).toInt32) &&& 1431655765)) &&& 858993459) + (((((v0 - ((((v0 : Int32).toUInt32 >>> ((1 : Int32).toUInt32 &&& Int32.toUInt32 31)).toInt32) &&& 1431655765)) : Int32).toUInt32 >>> ((2 : Int32).toUInt32 &&& Int32.toUInt32 31)).toInt32) &&& 858993459)) + ((((((v0 - ((((v0 : Int32).toUInt32 >>> ((1 : Int32).toUInt32 &&& Int32.toUInt32 31)).toInt32) &&& 1431655765)) &&& 858993459) + (((((v0 - ((((v0 : Int32).toUInt32 >>> ((1 : Int32).toUInt32 &&& Int32.toUInt32 31)).toInt32) &&& 1431655765)) : Int32).toUInt32 >>> ((2 : Int32).toUInt32 &&& Int32.toUInt32 31)).toInt32) &&& 858993459)) : Int32).toUInt32 >>> ((4 : Int32).toUInt32 &&& Int32.toUInt32 31)).toInt32)) &&& 252645135) + ((((((((v0 - ((((v0 : Int32).toUInt32 >>> ((1 : Int32).toUInt32 &&& Int32.toUInt32 31)).toInt32) &&& 1431655765)) &&& 858993459) + (((((v0 - ((((v0 : Int32).toUInt32 >>> ((1 : Int32).toUInt32 &&& Int32.toUInt32 31)).toInt32) &&& 1431655765)) : Int32).toUInt32 >>> ((2 : Int32).toUInt32 &&& Int32.toUInt32 31)).toInt32) &&& 858993459)) + ((((((v0 - ((((v0 : Int32).toUInt32 >>> ((1 : Int32).toUInt32 &&& Int32.toUInt32 31)).toInt32) &&& 1431655765)) &&& 858993459) + (((((v0 - ((((v0 : Int32).toUInt32 >>> ((1 : Int32).toUInt32 &&& Int32.toUInt32 31)).toInt32) &&& 1431655765)) : Int32).toUInt32 >>> ((2 : Int32).toUInt32 &&& Int32.toUInt32 31)).toInt32) &&& 858993459)) : Int32).toUInt32 >>> ((4 : Int32).toUInt32 &&& Int32.toUInt32 31)).toInt32)) &&& 252645135) : Int32).toUInt32 >>> ((8 : Int32).toUInt32 &&& Int32.toUInt32 31)).toInt32))) (y := 16) dJ6_bitCount_0f7a4_45 ?_
  refine r_iadd (x := ((((((v0 - ((((v0 : Int32).toUInt32 >>> ((1 : Int32).toUInt32 &&& Int32.toUInt32 31)).toInt32) &&& 1431655765)) &&& 858993459) + (((((v0 - ((((v0 : Int32).toUInt32 >>> ((1 : Int32).toUInt32 &&& Int32.toUInt32 31)).toInt32) &&& 1431655765)) : Int32).toUInt32 >>> ((2 : Int32).toUInt32 &&& Int32.toUInt32 31)).toInt32) &&& 858993459)) + ((((((v0 - ((((v0 : Int32).toUInt32 >>> ((1 : Int32).toUInt32 &&& Int32.toUInt32 31)).toInt32) &&& 1431655765)) &&& 858993459) + (((((v0 - ((((v0 : Int32).toUInt32 >>> ((1 : Int32).toUInt32 &&& Int32.toUInt32 31)).toInt32) &&& 1431655765)) : Int32).toUInt32 >>> ((2 : Int32).toUInt32 &&& Int32.toUInt32 31)).toInt32) &&& 858993459)) : Int32).toUInt32 >>> ((4 : Int32).toUInt32 &&& Int32.toUInt32 31)).toInt32)) &&& 252645135) + ((((((((v0 - ((((v0 : Int32).toUInt32 >>> ((1 : Int32).toUInt32 &&& Int32.toUInt32 31)).toInt32) &&& 1431655765)) &&& 858993459) + (((((v0 - ((((v0 : Int32).toUInt32 >>> ((1 : Int32).toUInt32 &&& Int32.toUInt32 31)).toInt32) &&& 1431655765)) : Int32).toUInt32 >>> ((2 : Int32).toUInt32 &&& Int32.toUInt32 31)).toInt32) &&& 858993459)) + ((((((v0 - ((((v0 : Int32).toUInt32 >>> ((1 : Int32).toUInt32 &&& Int32.toUInt32 31)).toInt32) &&& 1431655765)) &&& 858993459) + (((((v0 - ((((v0 : Int32).toUInt32 >>> ((1 : Int32).toUInt32 &&& Int32.toUInt32 31)).toInt32) &&& 1431655765)) : Int32).toUInt32 >>> ((2 : Int32).toUInt32 &&& Int32.toUInt32 31)).toInt32) &&& 858993459)) : Int32).toUInt32 >>> ((4 : Int32).toUInt32 &&& Int32.toUInt32 31)).toInt32)) &&& 252645135) : Int32).toUInt32 >>> ((8 : Int32).toUInt32 &&& Int32.toUInt32 31)).toInt32))) (y := (((((((((v0 - ((((v0 : Int32).toUInt32 >>> ((1 : Int32).toUInt32 &&& Int32.toUInt32 31)).toInt32) &&& 1431655765)) &&& 858993459) + (((((v0 - ((((v0 : Int32).toUInt32 >>> ((1 : Int32).toUInt32 &&& Int32.toUInt32 31)).toInt32) &&& 1431655765)) : Int32).toUInt32 >>> ((2 : Int32).toUInt32 &&& Int32.toUInt32 31)).toInt32) &&& 858993459)) + ((((((v0 - ((((v0 : Int32).toUInt32 >>> ((1 : Int32).toUInt32 &&& Int32.toUInt32 31)).toInt32) &&& 1431655765)) &&& 858993459) + (((((v0 - ((((v0 : Int32).toUInt32 >>> ((1 : Int32).toUInt32 &&& Int32.toUInt32 31)).toInt32) &&& 1431655765)) : Int32).toUInt32 >>> ((2 : Int32).toUInt32 &&& Int32.toUInt32 31)).toInt32) &&& 858993459)) : Int32).toUInt32 >>> ((4 : Int32).toUInt32 &&& Int32.toUInt32 31)).toInt32)) &&& 252645135) + ((((((((v0 - ((((v0 : Int32).toUInt32 >>> ((1 : Int32).toUInt32 &&& Int32.toUInt32 31)).toInt32) &&& 1431655765)) &&& 858993459) + (((((v0 - ((((v0 : Int32).toUInt32 >>> ((1 : Int32).toUInt32 &&& Int32.toUInt32 31)).toInt32) &&& 1431655765)) : Int32).toUInt32 >>> ((2 : Int32).toUInt32 &&& Int32.toUInt32 31)).toInt32) &&& 858993459)) + ((((((v0 - ((((v0 : Int32).toUInt32 >>> ((1 : Int32).toUInt32 &&& Int32.toUInt32 31)).toInt32) &&& 1431655765)) &&& 858993459) + (((((v0 - ((((v0 : Int32).toUInt32 >>> ((1 : Int32).toUInt32 &&& Int32.toUInt32 31)).toInt32) &&& 1431655765)) : Int32).toUInt32 >>> ((2 : Int32).toUInt32 &&& Int32.toUInt32 31)).toInt32) &&& 858993459)) : Int32).toUInt32 >>> ((4 : Int32).toUInt32 &&& Int32.toUInt32 31)).toInt32)) &&& 252645135) : Int32).toUInt32 >>> ((8 : Int32).toUInt32 &&& Int32.toUInt32 31)).toInt32)) : Int32).toUInt32 >>> ((16 : Int32).toUInt32 &&& Int32.toUInt32 31)).toInt32)) dJ6_bitCount_0f7a4_46 ?_
  refine r_istore_n (L' := [(0, aI (((((((v0 - ((((v0 : Int32).toUInt32 >>> ((1 : Int32).toUInt32 &&& Int32.toUInt32 31)).toInt32) &&& 1431655765)) &&& 858993459) + (((((v0 - ((((v0 : Int32).toUInt32 >>> ((1 : Int32).toUInt32 &&& Int32.toUInt32 31)).toInt32) &&& 1431655765)) : Int32).toUInt32 >>> ((2 : Int32).toUInt32 &&& Int32.toUInt32 31)).toInt32) &&& 858993459)) + ((((((v0 - ((((v0 : Int32).toUInt32 >>> ((1 : Int32).toUInt32 &&& Int32.toUInt32 31)).toInt32) &&& 1431655765)) &&& 858993459) + (((((v0 - ((((v0 : Int32).toUInt32 >>> ((1 : Int32).toUInt32 &&& Int32.toUInt32 31)).toInt32) &&& 1431655765)) : Int32).toUInt32 >>> ((2 : Int32).toUInt32 &&& Int32.toUInt32 31)).toInt32) &&& 858993459)) : Int32).toUInt32 >>> ((4 : Int32).toUInt32 &&& Int32.toUInt32 31)).toInt32)) &&& 252645135) + ((((((((v0 - ((((v0 : Int32).toUInt32 >>> ((1 : Int32).toUInt32 &&& Int32.toUInt32 31)).toInt32) &&& 1431655765)) &&& 858993459) + (((((v0 - ((((v0 : Int32).toUInt32 >>> ((1 : Int32).toUInt32 &&& Int32.toUInt32 31)).toInt32) &&& 1431655765)) : Int32).toUInt32 >>> ((2 : Int32).toUInt32 &&& Int32.toUInt32 31)).toInt32) &&& 858993459)) + ((((((v0 - ((((v0 : Int32).toUInt32 >>> ((1 : Int32).toUInt32 &&& Int32.toUInt32 31)).toInt32) &&& 1431655765)) &&& 858993459) + (((((v0 - ((((v0 : Int32).toUInt32 >>> ((1 : Int32).toUInt32 &&& Int32.toUInt32 31)).toInt32) &&& 1431655765)) : Int32).toUInt32 >>> ((2 : Int32).toUInt32 &&& Int32.toUInt32 31)).toInt32) &&& 858993459)) : Int32).toUInt32 >>> ((4 : Int32).toUInt32 &&& Int32.toUInt32 31)).toInt32)) &&& 252645135) : Int32).toUInt32 >>> ((8 : Int32).toUInt32 &&& Int32.toUInt32 31)).toInt32)) + (((((((((v0 - ((((v0 : Int32).toUInt32 >>> ((1 : Int32).toUInt32 &&& Int32.toUInt32 31)).toInt32) &&& 1431655765)) &&& 858993459) + (((((v0 - ((((v0 : Int32).toUInt32 >>> ((1 : Int32).toUInt32 &&& Int32.toUInt32 31)).toInt32) &&& 1431655765)) : Int32).toUInt32 >>> ((2 : Int32).toUInt32 &&& Int32.toUInt32 31)).toInt32) &&& 858993459)) + ((((((v0 - ((((v0 : Int32).toUInt32 >>> ((1 : Int32).toUInt32 &&& Int32.toUInt32 31)).toInt32) &&& 1431655765)) &&& 858993459) + (((((v0 - ((((v0 : Int32).toUInt32 >>> ((1 : Int32).toUInt32 &&& Int32.toUInt32 31)).toInt32) &&& 1431655765)) : Int32).toUInt32 >>> ((2 : Int32).toUInt32 &&& Int32.toUInt32 31)).toInt32) &&& 858993459)) : Int32).toUInt32 >>> ((4 : Int32).toUInt32 &&& Int32.toUInt32 31)).toInt32)) &&& 252645135) + ((((((((v0 - ((((v0 : Int32).toUInt32 >>> ((1 : Int32).toUInt32 &&& Int32.toUInt32 31)).toInt32) &&& 1431655765)) &&& 858993459) + (((((v0 - ((((v0 : Int32).toUInt32 >>> ((1 : Int32).toUInt32 &&& Int32.toUInt32 31)).toInt32) &&& 1431655765)) : Int32).toUInt32 >>> ((2 : Int32).toUInt32 &&& Int32.toUInt32 31)).toInt32) &&& 858993459)) + ((((((v0 - ((((v0 : Int32).toUInt32 >>> ((1 : Int32).toUInt32 &&& Int32.toUInt32 31)).toInt32) &&& 1431655765)) &&& 858993459) + (((((v0 - ((((v0 : Int32).toUInt32 >>> ((1 : Int32).toUInt32 &&& Int32.toUInt32 31)).toInt32) &&& 1431655765)) : Int32).toUInt32 >>> ((2 : Int32).toUInt32 &&& Int32.toUInt32 31)).toInt32) &&& 858993459)) : Int32).toUInt32 >>> ((4 : Int32).toUInt32 &&& Int32.toUInt32 31)).toInt32)) &&& 252645135) : Int32).toUInt32 >>> ((8 : Int32).toUInt32 &&& Int32.toUInt32 31)).toInt32)) : Int32).toUInt32 >>> ((16 : Int32).toUInt32 &&& Int32.toUInt32 31)).toInt32)))]) rfl rfl (Nat.le_of_ble_eq_true rfl) dJ6_bitCount_0f7a4_47 ?_
  refine r_iload_n (j := 0) rfl rfl dJ6_bitCount_0f7a4_48 ?_
  refine r_bipush (v := 63) (by decide) dJ6_bitCount_0f7a4_49 ?_
  refine r_iand (x := (((((((v0 - ((((v0 : Int32).toUInt32 >>> ((1 : Int32).toUInt32 &&& Int32.toUInt32 31)).toInt32) &&& 1431655765)) &&& 858993459) + (((((v0 - ((((v0 : Int32).toUInt32 >>> ((1 : Int32).toUInt32 &&& Int32.toUInt32 31)).toInt32) &&& 1431655765)) : Int32).toUInt32 >>> ((2 : Int32).toUInt32 &&& Int32.toUInt32 31)).toInt32) &&& 858993459)) + ((((((v0 - ((((v0 : Int32).toUInt32 >>> ((1 : Int32).toUInt32 &&& Int32.toUInt32 31)).toInt32) &&& 1431655765)) &&& 858993459) + (((((v0 - ((((v0 : Int32).toUInt32 >>> ((1 : Int32).toUInt32 &&& Int32.toUInt32 31)).toInt32) &&& 1431655765)) : Int32).toUInt32 >>> ((2 : Int32).toUInt32 &&& Int32.toUInt32 31)).toInt32) &&& 858993459)) : Int32).toUInt32 >>> ((4 : Int32).toUInt32 &&& Int32.toUInt32 31)).toInt32)) &&& 252645135) + ((((((((v0 - ((((v0 : Int32).toUInt32 >>> ((1 : Int32).toUInt32 &&& Int32.toUInt32 31)).toInt32) &&& 1431655765)) &&& 858993459) + (((((v0 - ((((v0 : Int32).toUInt32 >>> ((1 : Int32).toUInt32 &&& Int32.toUInt32 31)).toInt32) &&& 1431655765)) : Int32).toUInt32 >>> ((2 : Int32).toUInt32 &&& Int32.toUInt32 31)).toInt32) &&& 858993459)) + ((((((v0 - ((((v0 : Int32).toUInt32 >>> ((1 : Int32).toUInt32 &&& Int32.toUInt32 31)).toInt32) &&& 1431655765)) &&& 858993459) + (((((v0 - ((((v0 : Int32).toUInt32 >>> ((1 : Int32).toUInt32 &&& Int32.toUInt32 31)).toInt32) &&& 1431655765)) : Int32).toUInt32 >>> ((2 : Int32).toUInt32 &&& Int32.toUInt32 31)).toInt32) &&& 858993459)) : Int32).toUInt32 >>> ((4 : Int32).toUInt32 &&& Int32.toUInt32 31)).toInt32)) &&& 252645135) : Int32).toUInt32 >>> ((8 : Int32).toUInt32 &&& Int32.toUInt32 31)).toInt32)) + (((((((((v0 - ((((v0 : Int32).toUInt32 >>> ((1 : Int32).toUInt32 &&& Int32.toUInt32 31)).toInt32) &&& 1431655765)) &&& 858993459) + (((((v0 - ((((v0 : Int32).toUInt32 >>> ((1 : Int32).toUInt32 &&& Int32.toUInt32 31)).toInt32) &&& 1431655765)) : Int32).toUInt32 >>> ((2 : Int32).toUInt32 &&& Int32.toUInt32 31)).toInt32) &&& 858993459)) + ((((((v0 - ((((v0 : Int32).toUInt32 >>> ((1 : Int32).toUInt32 &&& Int32.toUInt32 31)).toInt32) &&& 1431655765)) &&& 858993459) + (((((v0 - ((((v0 : Int32).toUInt32 >>> ((1 : Int32).toUInt32 &&& Int32.toUInt32 31)).toInt32) &&& 1431655765)) : Int32).toUInt32 >>> ((2 : Int32).toUInt32 &&& Int32.toUInt32 31)).toInt32) &&& 858993459)) : Int32).toUInt32 >>> ((4 : Int32).toUInt32 &&& Int32.toUInt32 31)).toInt32)) &&& 252645135) + ((((((((v0 - ((((v0 : Int32).toUInt32 >>> ((1 : Int32).toUInt32 &&& Int32.toUInt32 31)).toInt32) &&& 1431655765)) &&& 858993459) + (((((v0 - ((((v0 : Int32).toUInt32 >>> ((1 : Int32).toUInt32 &&& Int32.toUInt32 31)).toInt32) &&& 1431655765)) : Int32).toUInt32 >>> ((2 : Int32).toUInt32 &&& Int32.toUInt32 31)).toInt32) &&& 858993459)) + ((((((v0 - ((((v0 : Int32).toUInt32 >>> ((1 : Int32).toUInt32 &&& Int32.toUInt32 31)).toInt32) &&& 1431655765)) &&& 858993459) + (((((v0 - ((((v0 : Int32).toUInt32 >>> ((1 : Int32).toUInt32 &&& Int32.toUInt32 31)).toInt32) &&& 1431655765)) : Int32).toUInt32 >>> ((2 : Int32).toUInt32 &&& Int32.toUInt32 31)).toInt32) &&& 858993459)) : Int32).toUInt32 >>> ((4 : Int32).toUInt32 &&& Int32.toUInt32 31)).toInt32)) &&& 252645135) : Int32).toUInt32 >>> ((8 : Int32).toUInt32 &&& Int32.toUInt32 31)).toInt32)) : Int32).toUInt32 >>> ((16 : Int32).toUInt32 &&& Int32.toUInt32 31)).toInt32))) (y := 63) dJ6_bitCount_0f7a4_51 ?_
  exact r_ireturn rfl dJ6_bitCount_0f7a4_52 rfl ⟨_, rfl, hf⟩
theorem m_J6_bitCount_0f7a4 {l : Launch} {G : GG} {d : Nat} {v0 : Int32} {σ : Hp} {K : Int32 → Hp → Prop} (hf : F_J6_bitCount_0f7a4 l G d v0 σ K) : C_J6_bitCount_0f7a4 l G (d + 1) v0 σ K := Sp.of (by decide) (Nat.le_of_ble_eq_true rfl) (b_J6_bitCount_0f7a4_0 hf) rfl
def F_J0_length_8abf5 (l : Launch) (G : GG) (d : Nat) (v0 : Nat) (σ : Hp) (K : Int32 → Hp → Prop) : Prop :=
  ∃ j1 q_j1, v0 = gK G j1 ∧ ssz[j1]? = some q_j1 ∧
  C_J0_coder_7d493 l G d (gK G j1) σ fun r5 σ4 =>
  K ((nI q_j1.2.2.2.length) >>> (r5 &&& 31)) σ4
set_option maxRecDepth 100000 in
set_option maxHeartbeats 4000000 in
theorem b_J0_length_8abf5_0 {l : Launch} {G : GG} {d : Nat} {v0 : Nat} {σ : Hp} {K : Int32 → Hp → Prop} (hf : F_J0_length_8abf5 l G d v0 σ K) : Wd l G (d + 1) "java/lang/String" yJ0_length_8abf5 cJ0_length_8abf5 1 (some FieldType.int) 0 [(0, aR (some v0))] [] σ 0 0 (xM (QI K)) := by
  unfold F_J0_length_8abf5 at hf
  refine r_aload_n (j := 0) rfl rfl dJ0_length_8abf5_0 ?_
  obtain ⟨j1, q_j1, ha_j1, hj_j1, hf⟩ := hf
  subst ha_j1
  refine r_strV hj_j1 wd_9_92 dJ0_length_8abf5_1 ?_
  refine r_alenS hj_j1 dJ0_length_8abf5_4 ?_
  refine r_aload_n (j := 0) rfl rfl dJ0_length_8abf5_5 ?_
  try unfold C_J0_coder_7d493 at hf
  obtain ⟨⟨j6, q_j6, ha_j6, hj_j6⟩, hf⟩ := hf
  refine r_invKI (j := j6) (As := []) (dz := d) (mz := 0) (sz := 0) rfl wd_2_158 wd_2_159 wd_2_160 cf_J0_coder_7d493 (Nat.le_refl _) (Nat.zero_le _) (Nat.zero_le _) (cat_ok (Nat.le_of_ble_eq_true rfl)) rfl ha_j6 hj_j6 dJ0_length_8abf5_6 hf (fun r5 σ4 hk => ?_)
  replace hf := hk
  clear hk
  refine r_ishr (x := (nI q_j1.2.2.2.length)) (y := r5) dJ0_length_8abf5_9 ?_
  exact r_ireturn rfl dJ0_length_8abf5_10 rfl ⟨_, rfl, hf⟩
theorem m_J0_length_8abf5 {l : Launch} {G : GG} {d : Nat} {v0 : Nat} {σ : Hp} {K : Int32 → Hp → Prop} (hr : rs G v0) (hf : F_J0_length_8abf5 l G d v0 σ K) : C_J0_length_8abf5 l G (d + 1) v0 σ K := ⟨hr, Sp.of (by decide) (Nat.le_of_ble_eq_true rfl) (b_J0_length_8abf5_0 hf) rfl⟩
def F_J0_charAt_5068e (l : Launch) (G : GG) (d : Nat) (v0 : Nat) (v1 : Int32) (σ : Hp) (K : Int32 → Hp → Prop) : Prop :=
  C_J0_isLatin1_aae02 l G d v0 σ fun r2 σ1 =>
  (r2 = false →
    ∃ j4 q_j4, v0 = gK G j4 ∧ ssz[j4]? = some q_j4 ∧
    False) ∧
  (r2 = true →
    ∃ j5 q_j5, v0 = gK G j5 ∧ ssz[j5]? = some q_j5 ∧
    C_J1_charAt_3b067 l G d (gV G j5) v1 σ1 fun r7 σ6 =>
    narrow .char (.int r7) = .int r7 ∧
    K r7 σ6)
set_option maxRecDepth 100000 in
set_option maxHeartbeats 4000000 in
theorem b_J0_charAt_5068e_0 {l : Launch} {G : GG} {d : Nat} {v0 : Nat} {v1 : Int32} {σ : Hp} {K : Int32 → Hp → Prop} (hf : F_J0_charAt_5068e l G d v0 v1 σ K) : Wd l G (d + 1) "java/lang/String" yJ0_charAt_5068e cJ0_charAt_5068e 2 (some FieldType.char) 0 [(0, aR (some v0)), (1, aI v1)] [] σ 0 0 (xM (QI K)) := by
  unfold F_J0_charAt_5068e at hf
  refine r_aload_n (j := 0) rfl rfl dJ0_charAt_5068e_0 ?_
  try unfold C_J0_isLatin1_aae02 at hf
  obtain ⟨⟨j3, q_j3, ha_j3, hj_j3⟩, hf⟩ := hf
  refine r_invKZ (j := j3) (As := []) (dz := d) (mz := 0) (sz := 0) rfl wd_2_168 wd_2_169 wd_2_170 cf_J0_isLatin1_aae02 (Nat.le_refl _) (Nat.zero_le _) (Nat.zero_le _) (cat_ok (Nat.le_of_ble_eq_true rfl)) rfl ha_j3 hj_j3 dJ0_charAt_5068e_1 hf (fun r2 σ1 hk => ?_)
  replace hf := hk
  clear hk
  refine r_ifeqZ (b := r2) (tgt := 16) (by decide) dJ0_charAt_5068e_4 (fun hc => ?_) (fun hc => ?_)
  · replace hf := hf.1 hc
    refine r_aload_n (j := 0) rfl rfl dJ0_charAt_5068e_16 ?_
    obtain ⟨j4, q_j4, ha_j4, hj_j4, hf⟩ := hf
    subst ha_j4
    refine r_strV hj_j4 wd_9_92 dJ0_charAt_5068e_17 ?_
    refine r_iload_n (j := 1) rfl rfl dJ0_charAt_5068e_20 ?_
    exact hf.elim
  · replace hf := hf.2 hc
    refine r_aload_n (j := 0) rfl rfl dJ0_charAt_5068e_7 ?_
    obtain ⟨j5, q_j5, ha_j5, hj_j5, hf⟩ := hf
    subst ha_j5
    refine r_strV hj_j5 wd_9_92 dJ0_charAt_5068e_8 ?_
    refine r_iload_n (j := 1) rfl rfl dJ0_charAt_5068e_11 ?_
    try unfold C_J1_charAt_3b067 at hf
    refine r_invSI (As := [aR (some (gV G j5)), aI v1]) (dz := d) (mz := 0) (sz := 0) rfl wd_2_172 wd_2_173 cf_J1_charAt_3b067 (Nat.le_refl _) (Nat.zero_le _) (Nat.zero_le _) (cat_ok (Nat.le_of_ble_eq_true rfl)) dJ0_charAt_5068e_12 hf (fun r7 σ6 hk => ?_)
    replace hf := hk
    clear hk
    obtain ⟨hn, hf⟩ := hf
    exact r_nreturn rfl hn dJ0_charAt_5068e_15 rfl ⟨_, rfl, hf⟩
theorem m_J0_charAt_5068e {l : Launch} {G : GG} {d : Nat} {v0 : Nat} {v1 : Int32} {σ : Hp} {K : Int32 → Hp → Prop} (hr : rs G v0) (hf : F_J0_charAt_5068e l G d v0 v1 σ K) : C_J0_charAt_5068e l G (d + 1) v0 v1 σ K := ⟨hr, Sp.of (by decide) (Nat.le_of_ble_eq_true rfl) (b_J0_charAt_5068e_0 hf) rfl⟩
def F_J0_coder_7d493_14 (l : Launch) (G : GG) (d : Nat) (s0 : Int32) (σ : Hp) (K : Int32 → Hp → Prop) : Prop :=
  narrow .byte (.int s0) = .int s0 ∧
  K s0 σ
set_option maxRecDepth 100000 in
set_option maxHeartbeats 4000000 in
theorem b_J0_coder_7d493_14 {l : Launch} {G : GG} {d : Nat} {s0 : Int32} {σ : Hp} {K : Int32 → Hp → Prop} (hf : F_J0_coder_7d493_14 l G d s0 σ K) : Wd l G (d + 1) "java/lang/String" yJ0_coder_7d493 cJ0_coder_7d493 1 (some FieldType.byte) 14 [] [aI s0] σ 0 0 (xM (QI K)) := by
  unfold F_J0_coder_7d493_14 at hf
  obtain ⟨hn, hf⟩ := hf
  exact r_nreturn rfl hn dJ0_coder_7d493_14 rfl ⟨_, rfl, hf⟩
def F_J0_coder_7d493 (l : Launch) (G : GG) (d : Nat) (v0 : Nat) (σ : Hp) (K : Int32 → Hp → Prop) : Prop :=
  (true = false →
    F_J0_coder_7d493_14 l G d 1 σ K) ∧
  (true = true →
    ∃ j1 q_j1, v0 = gK G j1 ∧ ssz[j1]? = some q_j1 ∧
    F_J0_coder_7d493_14 l G d 0 σ K)
set_option maxRecDepth 100000 in
set_option maxHeartbeats 4000000 in
theorem b_J0_coder_7d493_0 {l : Launch} {G : GG} {d : Nat} {v0 : Nat} {σ : Hp} {K : Int32 → Hp → Prop} (hf : F_J0_coder_7d493 l G d v0 σ K) : Wd l G (d + 1) "java/lang/String" yJ0_coder_7d493 cJ0_coder_7d493 1 (some FieldType.byte) 0 [(0, aR (some v0))] [] σ 0 0 (xM (QI K)) := by
  unfold F_J0_coder_7d493 at hf
  refine r_getsC wd_2_162 dJ0_coder_7d493_0 ?_
  refine r_ifeqZ (b := true) (tgt := 13) (by decide) dJ0_coder_7d493_3 (fun hc => ?_) (fun hc => ?_)
  · replace hf := hf.1 hc
    refine r_iconst (v := 1) (by decide) dJ0_coder_7d493_13 ?_
    exact r_sub [] rfl (b_J0_coder_7d493_14 hf)
  · replace hf := hf.2 hc
    refine r_aload_n (j := 0) rfl rfl dJ0_coder_7d493_6 ?_
    obtain ⟨j1, q_j1, ha_j1, hj_j1, hf⟩ := hf
    subst ha_j1
    refine r_strC hj_j1 wd_9_93 dJ0_coder_7d493_7 ?_
    refine r_goto (tgt := 14) (by decide) dJ0_coder_7d493_10 ?_
    exact r_sub [] rfl (b_J0_coder_7d493_14 hf)
theorem m_J0_coder_7d493 {l : Launch} {G : GG} {d : Nat} {v0 : Nat} {σ : Hp} {K : Int32 → Hp → Prop} (hr : rs G v0) (hf : F_J0_coder_7d493 l G d v0 σ K) : C_J0_coder_7d493 l G (d + 1) v0 σ K := ⟨hr, Sp.of (by decide) (Nat.le_of_ble_eq_true rfl) (b_J0_coder_7d493_0 hf) rfl⟩
def F_J0_isLatin1_aae02_18 (l : Launch) (G : GG) (d : Nat) (s0 : Bool) (σ : Hp) (K : Bool → Hp → Prop) : Prop :=
  K s0 σ
set_option maxRecDepth 100000 in
set_option maxHeartbeats 4000000 in
theorem b_J0_isLatin1_aae02_18 {l : Launch} {G : GG} {d : Nat} {s0 : Bool} {σ : Hp} {K : Bool → Hp → Prop} (hf : F_J0_isLatin1_aae02_18 l G d s0 σ K) : Wd l G (d + 1) "java/lang/String" yJ0_isLatin1_aae02 cJ0_isLatin1_aae02 1 (some FieldType.boolean) 18 [] [aI (bi s0)] σ 0 0 (xM (QZ K)) := by
  unfold F_J0_isLatin1_aae02_18 at hf
  exact r_zreturn (b := s0) rfl dJ0_isLatin1_aae02_18 rfl ⟨_, rfl, hf⟩
def F_J0_isLatin1_aae02_17 (l : Launch) (G : GG) (d : Nat) (σ : Hp) (K : Bool → Hp → Prop) : Prop :=
  F_J0_isLatin1_aae02_18 l G d false σ K
set_option maxRecDepth 100000 in
set_option maxHeartbeats 4000000 in
theorem b_J0_isLatin1_aae02_17 {l : Launch} {G : GG} {d : Nat} {σ : Hp} {K : Bool → Hp → Prop} (hf : F_J0_isLatin1_aae02_17 l G d  σ K) : Wd l G (d + 1) "java/lang/String" yJ0_isLatin1_aae02 cJ0_isLatin1_aae02 1 (some FieldType.boolean) 17 [] [] σ 0 0 (xM (QZ K)) := by
  unfold F_J0_isLatin1_aae02_17 at hf
  refine r_iconst (v := 0) (by decide) dJ0_isLatin1_aae02_17 ?_
  exact r_sub [] rfl (b_J0_isLatin1_aae02_18 hf)
def F_J0_isLatin1_aae02 (l : Launch) (G : GG) (d : Nat) (v0 : Nat) (σ : Hp) (K : Bool → Hp → Prop) : Prop :=
  (true = false →
    F_J0_isLatin1_aae02_17 l G d σ K) ∧
  (true = true →
    ∃ j1 q_j1, v0 = gK G j1 ∧ ssz[j1]? = some q_j1 ∧
    (¬ (0 : Int32) = 0 →
      F_J0_isLatin1_aae02_17 l G d σ K) ∧
    ((0 : Int32) = 0 →
      F_J0_isLatin1_aae02_18 l G d true σ K))
set_option maxRecDepth 100000 in
set_option maxHeartbeats 4000000 in
theorem b_J0_isLatin1_aae02_0 {l : Launch} {G : GG} {d : Nat} {v0 : Nat} {σ : Hp} {K : Bool → Hp → Prop} (hf : F_J0_isLatin1_aae02 l G d v0 σ K) : Wd l G (d + 1) "java/lang/String" yJ0_isLatin1_aae02 cJ0_isLatin1_aae02 1 (some FieldType.boolean) 0 [(0, aR (some v0))] [] σ 0 0 (xM (QZ K)) := by
  unfold F_J0_isLatin1_aae02 at hf
  refine r_getsC wd_2_162 dJ0_isLatin1_aae02_0 ?_
  refine r_ifeqZ (b := true) (tgt := 17) (by decide) dJ0_isLatin1_aae02_3 (fun hc => ?_) (fun hc => ?_)
  · replace hf := hf.1 hc
    exact r_sub [] rfl (b_J0_isLatin1_aae02_17 hf)
  · replace hf := hf.2 hc
    refine r_aload_n (j := 0) rfl rfl dJ0_isLatin1_aae02_6 ?_
    obtain ⟨j1, q_j1, ha_j1, hj_j1, hf⟩ := hf
    subst ha_j1
    refine r_strC hj_j1 wd_9_93 dJ0_isLatin1_aae02_7 ?_
    refine r_ifne (x := 0) (tgt := 17) (by decide) dJ0_isLatin1_aae02_10 (fun hc => ?_) (fun hc => ?_)
    · replace hf := hf.1 hc
      exact r_sub [] rfl (b_J0_isLatin1_aae02_17 hf)
    · replace hf := hf.2 hc
      refine r_iconst (v := 1) (by decide) dJ0_isLatin1_aae02_13 ?_
      refine r_goto (tgt := 18) (by decide) dJ0_isLatin1_aae02_14 ?_
      exact r_sub [] rfl (b_J0_isLatin1_aae02_18 hf)
theorem m_J0_isLatin1_aae02 {l : Launch} {G : GG} {d : Nat} {v0 : Nat} {σ : Hp} {K : Bool → Hp → Prop} (hr : rs G v0) (hf : F_J0_isLatin1_aae02 l G d v0 σ K) : C_J0_isLatin1_aae02 l G (d + 1) v0 σ K := ⟨hr, Sp.of (by decide) (Nat.le_of_ble_eq_true rfl) (b_J0_isLatin1_aae02_0 hf) rfl⟩
def F_J0_checkIndex_df160 (l : Launch) (G : GG) (d : Nat) (v0 : Int32) (v1 : Int32) (σ : Hp) (K : Hp → Prop) : Prop :=
  ∀ o1 : Option Nat,
  C_J3_checkIndex_8e157 l G d v0 v1 o1 σ fun r3 σ2 =>
  K σ2
set_option maxRecDepth 100000 in
set_option maxHeartbeats 4000000 in
theorem b_J0_checkIndex_df160_0 {l : Launch} {G : GG} {d : Nat} {v0 : Int32} {v1 : Int32} {σ : Hp} {K : Hp → Prop} (hf : F_J0_checkIndex_df160 l G d v0 v1 σ K) : Wd l G (d + 1) "java/lang/String" yJ0_checkIndex_df160 cJ0_checkIndex_df160 2 none 0 [(0, aI v0), (1, aI v1)] [] σ 0 0 (xM (QV K)) := by
  unfold F_J0_checkIndex_df160 at hf
  refine r_iload_n (j := 0) rfl rfl dJ0_checkIndex_df160_0 ?_
  refine r_iload_n (j := 1) rfl rfl dJ0_checkIndex_df160_1 ?_
  refine r_getsQ wd_2_178 dJ0_checkIndex_df160_2 (fun o1 => ?_)
  replace hf := hf o1
  try unfold C_J3_checkIndex_8e157 at hf
  refine r_invSI (As := [aI v0, aI v1, aR o1]) (dz := d) (mz := 0) (sz := 0) rfl wd_2_180 wd_2_181 cf_J3_checkIndex_8e157 (Nat.le_refl _) (Nat.zero_le _) (Nat.zero_le _) (cat_ok (Nat.le_of_ble_eq_true rfl)) dJ0_checkIndex_df160_5 hf (fun r3 σ2 hk => ?_)
  replace hf := hk
  clear hk
  refine r_pop rfl dJ0_checkIndex_df160_8 ?_
  exact r_return rfl dJ0_checkIndex_df160_9 rfl ⟨rfl, hf⟩
theorem m_J0_checkIndex_df160 {l : Launch} {G : GG} {d : Nat} {v0 : Int32} {v1 : Int32} {σ : Hp} {K : Hp → Prop} (hf : F_J0_checkIndex_df160 l G d v0 v1 σ K) : C_J0_checkIndex_df160 l G (d + 1) v0 v1 σ K := Sp.of (by decide) (Nat.le_of_ble_eq_true rfl) (b_J0_checkIndex_df160_0 hf) rfl
def F_J1_charAt_3b067 (l : Launch) (G : GG) (d : Nat) (v0 : Nat) (v1 : Int32) (σ : Hp) (K : Int32 → Hp → Prop) : Prop :=
  ∃ j2 q_j2, v0 = gV G j2 ∧ ssz[j2]? = some q_j2 ∧
  C_J0_checkIndex_df160 l G d v1 (nI q_j2.2.2.2.length) σ fun σ3 =>
  vp_in v1 q_j2.2.2.2.length ∧
  narrow .char (.int (((((nI (q_j2.2.2.2.getD (v1 : Int32).toNatClampNeg 0)) &&& 255) : Int32).toUInt32 % 65536).toInt32)) = .int (((((nI (q_j2.2.2.2.getD (v1 : Int32).toNatClampNeg 0)) &&& 255) : Int32).toUInt32 % 65536).toInt32) ∧
  K (((((nI (q_j2.2.2.2.getD (v1 : Int32).toNatClampNeg 0)) &&& 255) : Int32).toUInt32 % 65536).toInt32) σ3
set_option maxRecDepth 100000 in
set_option maxHeartbeats 4000000 in
theorem b_J1_charAt_3b067_0 {l : Launch} {G : GG} {d : Nat} {v0 : Nat} {v1 : Int32} {σ : Hp} {K : Int32 → Hp → Prop} (hf : F_J1_charAt_3b067 l G d v0 v1 σ K) : Wd l G (d + 1) "java/lang/StringLatin1" yJ1_charAt_3b067 cJ1_charAt_3b067 2 (some FieldType.char) 0 [(0, aR (some v0)), (1, aI v1)] [] σ 0 0 (xM (QI K)) := by
  unfold F_J1_charAt_3b067 at hf
  refine r_iload_n (j := 1) rfl rfl dJ1_charAt_3b067_0 ?_
  refine r_aload_n (j := 0) rfl rfl dJ1_charAt_3b067_1 ?_
  obtain ⟨j2, q_j2, ha_j2, hj_j2, hf⟩ := hf
  subst ha_j2
  refine r_alenS hj_j2 dJ1_charAt_3b067_2 ?_
  try unfold C_J0_checkIndex_df160 at hf
  refine r_invSU (As := [aI v1, aI (nI q_j2.2.2.2.length)]) (dz := d) (mz := 0) (sz := 0) rfl wd_2_175 wd_2_176 cf_J0_checkIndex_df160 (Nat.le_refl _) (Nat.zero_le _) (Nat.zero_le _) (cat_ok (Nat.le_of_ble_eq_true rfl)) dJ1_charAt_3b067_3 hf (fun σ3 hk => ?_)
  replace hf := hk
  clear hk
  refine r_aload_n (j := 0) rfl rfl dJ1_charAt_3b067_6 ?_
  refine r_iload_n (j := 1) rfl rfl dJ1_charAt_3b067_7 ?_
  obtain ⟨hi_j2, hf⟩ := hf
  refine r_baldS hj_j2 hi_j2 dJ1_charAt_3b067_8 ?_
  refine r_sipush (v := 255) (by decide) dJ1_charAt_3b067_9 ?_
  refine r_iand (x := (nI (q_j2.2.2.2.getD (v1 : Int32).toNatClampNeg 0))) (y := 255) dJ1_charAt_3b067_12 ?_
  refine r_i2c (x := ((nI (q_j2.2.2.2.getD (v1 : Int32).toNatClampNeg 0)) &&& 255)) dJ1_charAt_3b067_13 ?_
  obtain ⟨hn, hf⟩ := hf
  exact r_nreturn rfl hn dJ1_charAt_3b067_14 rfl ⟨_, rfl, hf⟩
theorem m_J1_charAt_3b067 {l : Launch} {G : GG} {d : Nat} {v0 : Nat} {v1 : Int32} {σ : Hp} {K : Int32 → Hp → Prop} (hf : F_J1_charAt_3b067 l G d v0 v1 σ K) : C_J1_charAt_3b067 l G (d + 1) v0 v1 σ K := Sp.of (by decide) (Nat.le_of_ble_eq_true rfl) (b_J1_charAt_3b067_0 hf) rfl
def F_Jxa1e45_init_da8c8 (l : Launch) (G : GG) (d : Nat) (v0 : Nat) (σ : Hp) (K : Hp → Prop) : Prop :=
  K σ
set_option maxRecDepth 100000 in
set_option maxHeartbeats 4000000 in
theorem b_Jxa1e45_init_da8c8_0 {l : Launch} {G : GG} {d : Nat} {v0 : Nat} {σ : Hp} {K : Hp → Prop} (hf : F_Jxa1e45_init_da8c8 l G d v0 σ K) : Wd l G (d + 1) "java/util/AbstractCollection" yJxa1e45_init_da8c8 cJxa1e45_init_da8c8 1 none 0 [(0, aR (some v0))] [] σ 0 0 (xM (QV K)) := by
  unfold F_Jxa1e45_init_da8c8 at hf
  refine r_aload_n (j := 0) rfl rfl dJxa1e45_init_da8c8_0 ?_
  refine r_objInit wd_2_38 wd_1_37 wd_1_38 (Nat.le_add_left 1 d) (cat_ok (Nat.le_of_ble_eq_true rfl)) dJxa1e45_init_da8c8_1 ?_
  exact r_return rfl dJxa1e45_init_da8c8_4 rfl ⟨rfl, hf⟩
theorem m_Jxa1e45_init_da8c8 {l : Launch} {G : GG} {d : Nat} {v0 : Nat} {σ : Hp} {K : Hp → Prop} (hf : F_Jxa1e45_init_da8c8 l G d v0 σ K) : C_Jxa1e45_init_da8c8 l G (d + 1) v0 σ K := Sp.of (by decide) (Nat.le_of_ble_eq_true rfl) (b_Jxa1e45_init_da8c8_0 hf) rfl
def F_Jxc12de_init_da8c8 (l : Launch) (G : GG) (d : Nat) (v0 : Nat) (σ : Hp) (K : Hp → Prop) : Prop :=
  C_Jxa1e45_init_da8c8 l G d v0 σ fun σ1 =>
  pF σ1 v0 13 0 (aI 0) fun σ3 =>
  K σ3
set_option maxRecDepth 100000 in
set_option maxHeartbeats 4000000 in
theorem b_Jxc12de_init_da8c8_0 {l : Launch} {G : GG} {d : Nat} {v0 : Nat} {σ : Hp} {K : Hp → Prop} (hf : F_Jxc12de_init_da8c8 l G d v0 σ K) : Wd l G (d + 1) "java/util/AbstractList" yJxc12de_init_da8c8 cJxc12de_init_da8c8 1 none 0 [(0, aR (some v0))] [] σ 0 0 (xM (QV K)) := by
  unfold F_Jxc12de_init_da8c8 at hf
  refine r_aload_n (j := 0) rfl rfl dJxc12de_init_da8c8_0 ?_
  try unfold C_Jxa1e45_init_da8c8 at hf
  refine r_invIU (As := []) (dz := d) (mz := 0) (sz := 0) rfl wd_2_35 wd_2_36 rfl rfl cf_Jxa1e45_init_da8c8 (Nat.le_refl _) (Nat.zero_le _) (Nat.zero_le _) (cat_ok (Nat.le_of_ble_eq_true rfl)) dJxc12de_init_da8c8_1 hf (fun σ1 hk => ?_)
  replace hf := hk
  clear hk
  refine r_aload_n (j := 0) rfl rfl dJxc12de_init_da8c8_4 ?_
  refine r_iconst (v := 0) (by decide) dJxc12de_init_da8c8_5 ?_
  obtain ⟨fs_x4, ha_x4, hf⟩ := hf
  generalize hσ3 : hset σ1 v0 (.inl (13, fs_x4.set 0 (aI 0))) = σ3 at hf
  refine r_put (Cn := RJx4a65c) (Tt := TJx4a65c) (N := 3) (n := 0) (v := aI 0) rfl uw_J (Nat.le_of_ble_eq_true rfl) wd_2_43 ha_x4 (ty0 := tyJx4a65c) tyJx4a65c_ok nmJx4a65c rfl (fo_I 0) dJxc12de_init_da8c8_6 ?_
  rw [hσ3]
  exact r_return rfl dJxc12de_init_da8c8_9 rfl ⟨rfl, hf⟩
theorem m_Jxc12de_init_da8c8 {l : Launch} {G : GG} {d : Nat} {v0 : Nat} {σ : Hp} {K : Hp → Prop} (hf : F_Jxc12de_init_da8c8 l G d v0 σ K) : C_Jxc12de_init_da8c8 l G (d + 1) v0 σ K := Sp.of (by decide) (Nat.le_of_ble_eq_true rfl) (b_Jxc12de_init_da8c8_0 hf) rfl
def F_Jx4a65c_init_da8c8 (l : Launch) (G : GG) (d : Nat) (v0 : Nat) (σ : Hp) (K : Hp → Prop) : Prop :=
  C_Jxc12de_init_da8c8 l G d v0 σ fun σ1 =>
  pF σ1 v0 13 1 (aR (some (gE G))) fun σ3 =>
  K σ3
set_option maxRecDepth 100000 in
set_option maxHeartbeats 4000000 in
theorem b_Jx4a65c_init_da8c8_0 {l : Launch} {G : GG} {d : Nat} {v0 : Nat} {σ : Hp} {K : Hp → Prop} (hf : F_Jx4a65c_init_da8c8 l G d v0 σ K) : Wd l G (d + 1) "java/util/ArrayList" yJx4a65c_init_da8c8 cJx4a65c_init_da8c8 1 none 0 [(0, aR (some v0))] [] σ 0 0 (xM (QV K)) := by
  unfold F_Jx4a65c_init_da8c8 at hf
  refine r_aload_n (j := 0) rfl rfl dJx4a65c_init_da8c8_0 ?_
  try unfold C_Jxc12de_init_da8c8 at hf
  refine r_invIU (As := []) (dz := d) (mz := 0) (sz := 0) rfl wd_2_32 wd_2_33 rfl rfl cf_Jxc12de_init_da8c8 (Nat.le_refl _) (Nat.zero_le _) (Nat.zero_le _) (cat_ok (Nat.le_of_ble_eq_true rfl)) dJx4a65c_init_da8c8_1 hf (fun σ1 hk => ?_)
  replace hf := hk
  clear hk
  refine r_aload_n (j := 0) rfl rfl dJx4a65c_init_da8c8_4 ?_
  refine r_getsE wd_2_39 dJx4a65c_init_da8c8_5 ?_
  obtain ⟨fs_x4, ha_x4, hf⟩ := hf
  generalize hσ3 : hset σ1 v0 (.inl (13, fs_x4.set 1 (aR (some (gE G))))) = σ3 at hf
  refine r_put (Cn := RJx4a65c) (Tt := TJx4a65c) (N := 3) (n := 1) (v := aR (some (gE G))) rfl uw_J (Nat.le_of_ble_eq_true rfl) wd_2_41 ha_x4 (ty0 := tyJx4a65c) tyJx4a65c_ok nmJx4a65c rfl (fo_A _ (some (gE G))) dJx4a65c_init_da8c8_8 ?_
  rw [hσ3]
  exact r_return rfl dJx4a65c_init_da8c8_11 rfl ⟨rfl, hf⟩
theorem m_Jx4a65c_init_da8c8 {l : Launch} {G : GG} {d : Nat} {v0 : Nat} {σ : Hp} {K : Hp → Prop} (hf : F_Jx4a65c_init_da8c8 l G d v0 σ K) : C_Jx4a65c_init_da8c8 l G (d + 1) v0 σ K := Sp.of (by decide) (Nat.le_of_ble_eq_true rfl) (b_Jx4a65c_init_da8c8_0 hf) rfl
def F_Jx4a65c_grow_92f84_20 (l : Launch) (G : GG) (d : Nat) (v0 : Nat) (v1 : Int32) (v2 : Int32) (σ : Hp) (bc bs : Nat) (K : Nat → Hp → Prop) : Prop :=
  C_J8_newLength_cabcc l G d v2 (v1 - v2) (v2 >>> (1 &&& 31)) σ fun r2 σ1 =>
  fN σ1 v0 13 1 fun x3 =>
  ∃ mz6 sz7, mz6 ≤ bc ∧ sz7 ≤ bs ∧ C_J7_copyOf_1904c l G d mz6 sz7 x3 r2 σ1 fun r5 σ4 =>
  pF σ4 v0 13 1 (aR (some r5)) fun σ8 =>
  K r5 σ8
set_option maxRecDepth 100000 in
set_option maxHeartbeats 4000000 in
theorem b_Jx4a65c_grow_92f84_20 {l : Launch} {G : GG} {d : Nat} {v0 : Nat} {v1 : Int32} {v2 : Int32} {σ : Hp} {bc bs : Nat} {K : Nat → Hp → Prop} (hf : F_Jx4a65c_grow_92f84_20 l G d v0 v1 v2 σ bc bs K) : Wd l G (d + 1) "java/util/ArrayList" yJx4a65c_grow_92f84 cJx4a65c_grow_92f84 4 (some (FieldType.array (FieldType.object "java/lang/Object"))) 20 [(0, aR (some v0)), (1, aI v1), (2, aI v2)] [] σ bc bs (xM (QN K)) := by
  unfold F_Jx4a65c_grow_92f84_20 at hf
  refine r_iload_n (j := 2) rfl rfl dJx4a65c_grow_92f84_20 ?_
  refine r_iload_n (j := 1) rfl rfl dJx4a65c_grow_92f84_21 ?_
  refine r_iload_n (j := 2) rfl rfl dJx4a65c_grow_92f84_22 ?_
  refine r_isub (x := v1) (y := v2) dJx4a65c_grow_92f84_23 ?_
  refine r_iload_n (j := 2) rfl rfl dJx4a65c_grow_92f84_24 ?_
  refine r_iconst (v := 1) (by decide) dJx4a65c_grow_92f84_25 ?_
  refine r_ishr (x := v2) (y := 1) dJx4a65c_grow_92f84_26 ?_
  try unfold C_J8_newLength_cabcc at hf
  refine r_invSI (As := [aI v2, aI (v1 - v2), aI (v2 >>> (1 &&& 31))]) (dz := d) (mz := 0) (sz := 0) rfl wd_3_97 wd_3_98 cf_J8_newLength_cabcc (Nat.le_refl _) (Nat.zero_le _) (Nat.zero_le _) (cat_ok (Nat.le_of_ble_eq_true rfl)) dJx4a65c_grow_92f84_27 hf (fun r2 σ1 hk => ?_)
  replace hf := hk
  clear hk
  refine r_istore_n (L' := [(3, aI r2), (0, aR (some v0)), (1, aI v1), (2, aI v2)]) rfl rfl (Nat.le_of_ble_eq_true rfl) dJx4a65c_grow_92f84_30 ?_
  refine r_aload_n (j := 1) rfl rfl dJx4a65c_grow_92f84_31 ?_
  refine r_aload_n (j := 1) rfl rfl dJx4a65c_grow_92f84_32 ?_
  obtain ⟨fs_x3, x3, ha_x3, hv_x3, hf⟩ := hf
  refine r_get (Cn := RJx4a65c) (Tt := TJx4a65c) (N := 3) (n := 1) rfl uw_J (Nat.le_of_ble_eq_true rfl) wd_2_41 ha_x3 hv_x3 dJx4a65c_grow_92f84_33 ?_
  refine r_iload_n (j := 0) rfl rfl dJx4a65c_grow_92f84_36 ?_
  obtain ⟨mz6, sz7, hbc, hbs, hf⟩ := hf
  try unfold C_J7_copyOf_1904c at hf
  refine r_invSN (As := [aR (some x3), aI r2]) (dz := d) (mz := mz6) (sz := sz7) rfl wd_3_107 wd_3_108 cf_J7_copyOf_1904c (Nat.le_refl _) hbc hbs (cat_ok (Nat.le_of_ble_eq_true rfl)) dJx4a65c_grow_92f84_37 hf (fun r5 σ4 hk => ?_)
  replace hf := hk
  clear hk
  refine r_dup_x1 rfl rfl dJx4a65c_grow_92f84_40 ?_
  obtain ⟨fs_x9, ha_x9, hf⟩ := hf
  generalize hσ8 : hset σ4 v0 (.inl (13, fs_x9.set 1 (aR (some r5)))) = σ8 at hf
  refine r_put (Cn := RJx4a65c) (Tt := TJx4a65c) (N := 3) (n := 1) (v := aR (some r5)) rfl uw_J (Nat.le_of_ble_eq_true rfl) wd_2_41 ha_x9 (ty0 := tyJx4a65c) tyJx4a65c_ok nmJx4a65c rfl (fo_A _ (some r5)) dJx4a65c_grow_92f84_41 ?_
  rw [hσ8]
  exact r_areturn rfl (Or.inr ⟨_, rfl⟩) dJx4a65c_grow_92f84_44 rfl ⟨_, rfl, hf⟩
def F_Jx4a65c_grow_92f84 (l : Launch) (G : GG) (d : Nat) (v0 : Nat) (v1 : Int32) (σ : Hp) (bc bs : Nat) (K : Nat → Hp → Prop) : Prop :=
  fN σ v0 13 1 fun x10 =>
  aL σ x10 fun x11 =>
  (0 < (x11 : Int32) →
    F_Jx4a65c_grow_92f84_20 l G d v0 v1 x11 σ bc bs K) ∧
  (¬ 0 < (x11 : Int32) →
    fN σ v0 13 1 fun x12 =>
    (((some x12) : Option Nat) = (some (gE G)) →
      nA_ 6 σ (if (10 : Int32) < v1 then v1 else 10) bc bs fun N15 q13 σ14 =>
      pF σ14 v0 13 1 (aR (some q13)) fun σ16 =>
      K q13 σ16) ∧
    (¬ ((some x12) : Option Nat) = (some (gE G)) →
      F_Jx4a65c_grow_92f84_20 l G d v0 v1 x11 σ bc bs K))
set_option maxRecDepth 100000 in
set_option maxHeartbeats 4000000 in
theorem b_Jx4a65c_grow_92f84_0 {l : Launch} {G : GG} {d : Nat} {v0 : Nat} {v1 : Int32} {σ : Hp} {bc bs : Nat} {K : Nat → Hp → Prop} (hf : F_Jx4a65c_grow_92f84 l G d v0 v1 σ bc bs K) : Wd l G (d + 1) "java/util/ArrayList" yJx4a65c_grow_92f84 cJx4a65c_grow_92f84 4 (some (FieldType.array (FieldType.object "java/lang/Object"))) 0 [(0, aR (some v0)), (1, aI v1)] [] σ bc bs (xM (QN K)) := by
  unfold F_Jx4a65c_grow_92f84 at hf
  refine r_aload_n (j := 0) rfl rfl dJx4a65c_grow_92f84_0 ?_
  obtain ⟨fs_x10, x10, ha_x10, hv_x10, hf⟩ := hf
  refine r_get (Cn := RJx4a65c) (Tt := TJx4a65c) (N := 3) (n := 1) rfl uw_J (Nat.le_of_ble_eq_true rfl) wd_2_41 ha_x10 hv_x10 dJx4a65c_grow_92f84_1 ?_
  obtain ⟨t_x11, N_x11, f_x11, ha_x11, hf⟩ := hf
  refine r_alen ha_x11 dJx4a65c_grow_92f84_4 ?_
  generalize nI N_x11 = x11 at hf ⊢
  refine r_istore_n (L' := [(2, aI x11), (0, aR (some v0)), (1, aI v1)]) rfl rfl (Nat.le_of_ble_eq_true rfl) dJx4a65c_grow_92f84_5 ?_
  refine r_iload_n (j := 0) rfl rfl dJx4a65c_grow_92f84_6 ?_
  refine r_ifgt (x := x11) (tgt := 20) (by decide) dJx4a65c_grow_92f84_7 (fun hc => ?_) (fun hc => ?_)
  · replace hf := hf.1 hc
    exact r_sub [1, 2, 0] rfl (b_Jx4a65c_grow_92f84_20 hf)
  · replace hf := hf.2 hc
    refine r_aload_n (j := 1) rfl rfl dJx4a65c_grow_92f84_10 ?_
    obtain ⟨fs_x12, x12, ha_x12, hv_x12, hf⟩ := hf
    refine r_get (Cn := RJx4a65c) (Tt := TJx4a65c) (N := 3) (n := 1) rfl uw_J (Nat.le_of_ble_eq_true rfl) wd_2_41 ha_x12 hv_x12 dJx4a65c_grow_92f84_11 ?_
    refine r_getsE wd_2_39 dJx4a65c_grow_92f84_14 ?_
    refine r_acmpeq (o := (some x12)) (o2 := (some (gE G))) (tgt := 45) (by decide) dJx4a65c_grow_92f84_17 (fun hc => ?_) (fun hc => ?_)
    · replace hf := hf.1 hc
      refine r_aload_n (j := 1) rfl rfl dJx4a65c_grow_92f84_45 ?_
      refine r_bipush (v := 10) (by decide) dJx4a65c_grow_92f84_46 ?_
      refine r_iload_n (j := 2) rfl rfl dJx4a65c_grow_92f84_48 ?_
      refine r_mmax (x := 10) (y := v1) wd_3_141 wd_3_101 wd_1_21 wd_3_102 (Nat.le_add_left 1 d) (cat_ok (Nat.le_of_ble_eq_true rfl)) dJx4a65c_grow_92f84_49 ?_
      obtain ⟨N15, hn_N15, hl_N15, hbc, hbs, hf⟩ := hf
      refine r_newA6 wd_3_142 hn_N15 hl_N15 hbc hbs dJx4a65c_grow_92f84_52 (fun q13 hq_q13 => ?_)
      replace hf := hf q13 hq_q13
      refine Eq.mpr (congrArg (fun z => Wd _ _ _ _ _ _ _ _ _ _ _ z _ _ _) (rfl : _ = hset σ q13 (rA 6 N15 fun _ => none))) ?_
      generalize hset σ q13 (rA 6 N15 fun _ => none) = σ14 at hf ⊢
      refine r_dup_x1 rfl rfl dJx4a65c_grow_92f84_55 ?_
      obtain ⟨fs_x17, ha_x17, hf⟩ := hf
      generalize hσ16 : hset σ14 v0 (.inl (13, fs_x17.set 1 (aR (some q13)))) = σ16 at hf
      refine r_put (Cn := RJx4a65c) (Tt := TJx4a65c) (N := 3) (n := 1) (v := aR (some q13)) rfl uw_J (Nat.le_of_ble_eq_true rfl) wd_2_41 ha_x17 (ty0 := tyJx4a65c) tyJx4a65c_ok nmJx4a65c rfl (fo_A _ (some q13)) dJx4a65c_grow_92f84_56 ?_
      rw [hσ16]
      exact r_areturn rfl (Or.inr ⟨_, rfl⟩) dJx4a65c_grow_92f84_59 rfl ⟨_, rfl, hf⟩
    · replace hf := hf.2 hc
      exact r_sub [1, 2, 0] rfl (b_Jx4a65c_grow_92f84_20 hf)
theorem m_Jx4a65c_grow_92f84 {l : Launch} {G : GG} {d : Nat} {mc ms : Nat} {v0 : Nat} {v1 : Int32} {σ : Hp} {K : Nat → Hp → Prop} (hr : rv σ v0 13) (hf : F_Jx4a65c_grow_92f84 l G d v0 v1 σ mc ms K) : C_Jx4a65c_grow_92f84 l G (d + 1) mc ms v0 v1 σ K := ⟨hr, Sp.of (by decide) (Nat.le_of_ble_eq_true rfl) (b_Jx4a65c_grow_92f84_0 hf) rfl⟩
def F_Jx4a65c_grow_d5877 (l : Launch) (G : GG) (d : Nat) (v0 : Nat) (σ : Hp) (bc bs : Nat) (K : Nat → Hp → Prop) : Prop :=
  fI σ v0 13 2 fun x1 =>
  ∃ mz4 sz5, mz4 ≤ bc ∧ sz5 ≤ bs ∧ C_Jx4a65c_grow_92f84 l G d mz4 sz5 v0 (x1 + 1) σ fun r3 σ2 =>
  K r3 σ2
set_option maxRecDepth 100000 in
set_option maxHeartbeats 4000000 in
theorem b_Jx4a65c_grow_d5877_0 {l : Launch} {G : GG} {d : Nat} {v0 : Nat} {σ : Hp} {bc bs : Nat} {K : Nat → Hp → Prop} (hf : F_Jx4a65c_grow_d5877 l G d v0 σ bc bs K) : Wd l G (d + 1) "java/util/ArrayList" yJx4a65c_grow_d5877 cJx4a65c_grow_d5877 1 (some (FieldType.array (FieldType.object "java/lang/Object"))) 0 [(0, aR (some v0))] [] σ bc bs (xM (QN K)) := by
  unfold F_Jx4a65c_grow_d5877 at hf
  refine r_aload_n (j := 0) rfl rfl dJx4a65c_grow_d5877_0 ?_
  refine r_aload_n (j := 0) rfl rfl dJx4a65c_grow_d5877_1 ?_
  obtain ⟨fs_x1, x1, ha_x1, hv_x1, hf⟩ := hf
  refine r_get (Cn := RJx4a65c) (Tt := TJx4a65c) (N := 3) (n := 2) rfl uw_J (Nat.le_of_ble_eq_true rfl) wd_2_42 ha_x1 hv_x1 dJx4a65c_grow_d5877_2 ?_
  refine r_iconst (v := 1) (by decide) dJx4a65c_grow_d5877_5 ?_
  refine r_iadd (x := x1) (y := 1) dJx4a65c_grow_d5877_6 ?_
  obtain ⟨mz4, sz5, hbc, hbs, hf⟩ := hf
  try unfold C_Jx4a65c_grow_92f84 at hf
  obtain ⟨⟨fs_r3, ha_r3⟩, hf⟩ := hf
  refine r_invVN (t := 13) (As := [aI (x1 + 1)]) (dz := d) (mz := mz4) (sz := sz5) rfl wd_3_93 wd_3_95 wd_p_14 cf_Jx4a65c_grow_92f84 (Nat.le_refl _) hbc hbs (cat_ok (Nat.le_of_ble_eq_true rfl)) rfl rfl ha_r3 dJx4a65c_grow_d5877_7 hf (fun r3 σ2 hk => ?_)
  replace hf := hk
  clear hk
  exact r_areturn rfl (Or.inr ⟨_, rfl⟩) dJx4a65c_grow_d5877_10 rfl ⟨_, rfl, hf⟩
theorem m_Jx4a65c_grow_d5877 {l : Launch} {G : GG} {d : Nat} {mc ms : Nat} {v0 : Nat} {σ : Hp} {K : Nat → Hp → Prop} (hr : rv σ v0 13) (hf : F_Jx4a65c_grow_d5877 l G d v0 σ mc ms K) : C_Jx4a65c_grow_d5877 l G (d + 1) mc ms v0 σ K := ⟨hr, Sp.of (by decide) (Nat.le_of_ble_eq_true rfl) (b_Jx4a65c_grow_d5877_0 hf) rfl⟩
def F_Jx4a65c_size_8abf5 (l : Launch) (G : GG) (d : Nat) (v0 : Nat) (σ : Hp) (K : Int32 → Hp → Prop) : Prop :=
  fI σ v0 13 2 fun x1 =>
  K x1 σ
set_option maxRecDepth 100000 in
set_option maxHeartbeats 4000000 in
theorem b_Jx4a65c_size_8abf5_0 {l : Launch} {G : GG} {d : Nat} {v0 : Nat} {σ : Hp} {K : Int32 → Hp → Prop} (hf : F_Jx4a65c_size_8abf5 l G d v0 σ K) : Wd l G (d + 1) "java/util/ArrayList" yJx4a65c_size_8abf5 cJx4a65c_size_8abf5 1 (some FieldType.int) 0 [(0, aR (some v0))] [] σ 0 0 (xM (QI K)) := by
  unfold F_Jx4a65c_size_8abf5 at hf
  refine r_aload_n (j := 0) rfl rfl dJx4a65c_size_8abf5_0 ?_
  obtain ⟨fs_x1, x1, ha_x1, hv_x1, hf⟩ := hf
  refine r_get (Cn := RJx4a65c) (Tt := TJx4a65c) (N := 3) (n := 2) rfl uw_J (Nat.le_of_ble_eq_true rfl) wd_2_42 ha_x1 hv_x1 dJx4a65c_size_8abf5_1 ?_
  exact r_ireturn rfl dJx4a65c_size_8abf5_4 rfl ⟨_, rfl, hf⟩
theorem m_Jx4a65c_size_8abf5 {l : Launch} {G : GG} {d : Nat} {v0 : Nat} {σ : Hp} {K : Int32 → Hp → Prop} (hr : rv σ v0 13) (hf : F_Jx4a65c_size_8abf5 l G d v0 σ K) : C_Jx4a65c_size_8abf5 l G (d + 1) v0 σ K := ⟨hr, Sp.of (by decide) (Nat.le_of_ble_eq_true rfl) (b_Jx4a65c_size_8abf5_0 hf) rfl⟩
def F_Jx4a65c_isEmpty_aae02_12 (l : Launch) (G : GG) (d : Nat) (s0 : Bool) (σ : Hp) (K : Bool → Hp → Prop) : Prop :=
  K s0 σ
set_option maxRecDepth 100000 in
set_option maxHeartbeats 4000000 in
theorem b_Jx4a65c_isEmpty_aae02_12 {l : Launch} {G : GG} {d : Nat} {s0 : Bool} {σ : Hp} {K : Bool → Hp → Prop} (hf : F_Jx4a65c_isEmpty_aae02_12 l G d s0 σ K) : Wd l G (d + 1) "java/util/ArrayList" yJx4a65c_isEmpty_aae02 cJx4a65c_isEmpty_aae02 1 (some FieldType.boolean) 12 [] [aI (bi s0)] σ 0 0 (xM (QZ K)) := by
  unfold F_Jx4a65c_isEmpty_aae02_12 at hf
  exact r_zreturn (b := s0) rfl dJx4a65c_isEmpty_aae02_12 rfl ⟨_, rfl, hf⟩
def F_Jx4a65c_isEmpty_aae02 (l : Launch) (G : GG) (d : Nat) (v0 : Nat) (σ : Hp) (K : Bool → Hp → Prop) : Prop :=
  fI σ v0 13 2 fun x1 =>
  (¬ (x1 : Int32) = 0 →
    F_Jx4a65c_isEmpty_aae02_12 l G d false σ K) ∧
  ((x1 : Int32) = 0 →
    F_Jx4a65c_isEmpty_aae02_12 l G d true σ K)
set_option maxRecDepth 100000 in
set_option maxHeartbeats 4000000 in
theorem b_Jx4a65c_isEmpty_aae02_0 {l : Launch} {G : GG} {d : Nat} {v0 : Nat} {σ : Hp} {K : Bool → Hp → Prop} (hf : F_Jx4a65c_isEmpty_aae02 l G d v0 σ K) : Wd l G (d + 1) "java/util/ArrayList" yJx4a65c_isEmpty_aae02 cJx4a65c_isEmpty_aae02 1 (some FieldType.boolean) 0 [(0, aR (some v0))] [] σ 0 0 (xM (QZ K)) := by
  unfold F_Jx4a65c_isEmpty_aae02 at hf
  refine r_aload_n (j := 0) rfl rfl dJx4a65c_isEmpty_aae02_0 ?_
  obtain ⟨fs_x1, x1, ha_x1, hv_x1, hf⟩ := hf
  refine r_get (Cn := RJx4a65c) (Tt := TJx4a65c) (N := 3) (n := 2) rfl uw_J (Nat.le_of_ble_eq_true rfl) wd_2_42 ha_x1 hv_x1 dJx4a65c_isEmpty_aae02_1 ?_
  refine r_ifne (x := x1) (tgt := 11) (by decide) dJx4a65c_isEmpty_aae02_4 (fun hc => ?_) (fun hc => ?_)
  · replace hf := hf.1 hc
    refine r_iconst (v := 0) (by decide) dJx4a65c_isEmpty_aae02_11 ?_
    exact r_sub [] rfl (b_Jx4a65c_isEmpty_aae02_12 hf)
  · replace hf := hf.2 hc
    refine r_iconst (v := 1) (by decide) dJx4a65c_isEmpty_aae02_7 ?_
    refine r_goto (tgt := 12) (by decide) dJx4a65c_isEmpty_aae02_8 ?_
    exact r_sub [] rfl (b_Jx4a65c_isEmpty_aae02_12 hf)
theorem m_Jx4a65c_isEmpty_aae02 {l : Launch} {G : GG} {d : Nat} {v0 : Nat} {σ : Hp} {K : Bool → Hp → Prop} (hr : rv σ v0 13) (hf : F_Jx4a65c_isEmpty_aae02 l G d v0 σ K) : C_Jx4a65c_isEmpty_aae02 l G (d + 1) v0 σ K := ⟨hr, Sp.of (by decide) (Nat.le_of_ble_eq_true rfl) (b_Jx4a65c_isEmpty_aae02_0 hf) rfl⟩
def F_Jx4a65c_elementData_915e3 (l : Launch) (G : GG) (d : Nat) (v0 : Nat) (v1 : Int32) (σ : Hp) (K : Nat → Hp → Prop) : Prop :=
  fN σ v0 13 1 fun x1 =>
  gN 6 σ x1 v1 fun x2 =>
  K x2 σ
set_option maxRecDepth 100000 in
set_option maxHeartbeats 4000000 in
theorem b_Jx4a65c_elementData_915e3_0 {l : Launch} {G : GG} {d : Nat} {v0 : Nat} {v1 : Int32} {σ : Hp} {K : Nat → Hp → Prop} (hf : F_Jx4a65c_elementData_915e3 l G d v0 v1 σ K) : Wd l G (d + 1) "java/util/ArrayList" yJx4a65c_elementData_915e3 cJx4a65c_elementData_915e3 2 (some (FieldType.object "java/lang/Object")) 0 [(0, aR (some v0)), (1, aI v1)] [] σ 0 0 (xM (QN K)) := by
  unfold F_Jx4a65c_elementData_915e3 at hf
  refine r_aload_n (j := 0) rfl rfl dJx4a65c_elementData_915e3_0 ?_
  obtain ⟨fs_x1, x1, ha_x1, hv_x1, hf⟩ := hf
  refine r_get (Cn := RJx4a65c) (Tt := TJx4a65c) (N := 3) (n := 1) rfl uw_J (Nat.le_of_ble_eq_true rfl) wd_2_41 ha_x1 hv_x1 dJx4a65c_elementData_915e3_1 ?_
  refine r_iload_n (j := 1) rfl rfl dJx4a65c_elementData_915e3_4 ?_
  obtain ⟨N_x2, f_x2, x2, ha_x2, hi_x2, hv_x2, hf⟩ := hf
  refine r_aald6 ha_x2 hi_x2 dJx4a65c_elementData_915e3_5 ?_
  rw [hv_x2]
  exact r_areturn rfl (Or.inl ⟨_, rfl⟩) dJx4a65c_elementData_915e3_6 rfl ⟨_, rfl, hf⟩
theorem m_Jx4a65c_elementData_915e3 {l : Launch} {G : GG} {d : Nat} {v0 : Nat} {v1 : Int32} {σ : Hp} {K : Nat → Hp → Prop} (hr : rv σ v0 13) (hf : F_Jx4a65c_elementData_915e3 l G d v0 v1 σ K) : C_Jx4a65c_elementData_915e3 l G (d + 1) v0 v1 σ K := ⟨hr, Sp.of (by decide) (Nat.le_of_ble_eq_true rfl) (b_Jx4a65c_elementData_915e3_0 hf) rfl⟩
def F_Jx4a65c_get_915e3 (l : Launch) (G : GG) (d : Nat) (v0 : Nat) (v1 : Int32) (σ : Hp) (K : Nat → Hp → Prop) : Prop :=
  fI σ v0 13 2 fun x1 =>
  C_J15_checkIndex_7cf53 l G d v1 x1 σ fun r3 σ2 =>
  C_Jx4a65c_elementData_915e3 l G d v0 v1 σ2 fun r5 σ4 =>
  K r5 σ4
set_option maxRecDepth 100000 in
set_option maxHeartbeats 4000000 in
theorem b_Jx4a65c_get_915e3_0 {l : Launch} {G : GG} {d : Nat} {v0 : Nat} {v1 : Int32} {σ : Hp} {K : Nat → Hp → Prop} (hf : F_Jx4a65c_get_915e3 l G d v0 v1 σ K) : Wd l G (d + 1) "java/util/ArrayList" yJx4a65c_get_915e3 cJx4a65c_get_915e3 2 (some (FieldType.object "java/lang/Object")) 0 [(0, aR (some v0)), (1, aI v1)] [] σ 0 0 (xM (QN K)) := by
  unfold F_Jx4a65c_get_915e3 at hf
  refine r_iload_n (j := 1) rfl rfl dJx4a65c_get_915e3_0 ?_
  refine r_aload_n (j := 0) rfl rfl dJx4a65c_get_915e3_1 ?_
  obtain ⟨fs_x1, x1, ha_x1, hv_x1, hf⟩ := hf
  refine r_get (Cn := RJx4a65c) (Tt := TJx4a65c) (N := 3) (n := 2) rfl uw_J (Nat.le_of_ble_eq_true rfl) wd_2_42 ha_x1 hv_x1 dJx4a65c_get_915e3_2 ?_
  try unfold C_J15_checkIndex_7cf53 at hf
  refine r_invSI (As := [aI v1, aI x1]) (dz := d) (mz := 0) (sz := 0) rfl wd_3_18 wd_3_19 cf_J15_checkIndex_7cf53 (Nat.le_refl _) (Nat.zero_le _) (Nat.zero_le _) (cat_ok (Nat.le_of_ble_eq_true rfl)) dJx4a65c_get_915e3_5 hf (fun r3 σ2 hk => ?_)
  replace hf := hk
  clear hk
  refine r_pop rfl dJx4a65c_get_915e3_8 ?_
  refine r_aload_n (j := 0) rfl rfl dJx4a65c_get_915e3_9 ?_
  refine r_iload_n (j := 1) rfl rfl dJx4a65c_get_915e3_10 ?_
  try unfold C_Jx4a65c_elementData_915e3 at hf
  obtain ⟨⟨fs_r5, ha_r5⟩, hf⟩ := hf
  refine r_invVN (t := 13) (As := [aI v1]) (dz := d) (mz := 0) (sz := 0) rfl wd_3_22 wd_3_23 wd_3_24 cf_Jx4a65c_elementData_915e3 (Nat.le_refl _) (Nat.zero_le _) (Nat.zero_le _) (cat_ok (Nat.le_of_ble_eq_true rfl)) rfl rfl ha_r5 dJx4a65c_get_915e3_11 hf (fun r5 σ4 hk => ?_)
  replace hf := hk
  clear hk
  exact r_areturn rfl (Or.inl ⟨_, rfl⟩) dJx4a65c_get_915e3_14 rfl ⟨_, rfl, hf⟩
theorem m_Jx4a65c_get_915e3 {l : Launch} {G : GG} {d : Nat} {v0 : Nat} {v1 : Int32} {σ : Hp} {K : Nat → Hp → Prop} (hr : rv σ v0 13) (hf : F_Jx4a65c_get_915e3 l G d v0 v1 σ K) : C_Jx4a65c_get_915e3 l G (d + 1) v0 v1 σ K := ⟨hr, Sp.of (by decide) (Nat.le_of_ble_eq_true rfl) (b_Jx4a65c_get_915e3_0 hf) rfl⟩
def F_Jx4a65c_add_72be8_11 (l : Launch) (G : GG) (d : Nat) (v0 : Nat) (v1 : Nat) (v2 : Nat) (v3 : Int32) (σ : Hp) (bc bs : Nat) (K : Hp → Prop) : Prop :=
  sO σ v2 v3 v1 fun σ1 =>
  pF σ1 v0 13 2 (aI (v3 + 1)) fun σ3 =>
  K σ3
set_option maxRecDepth 100000 in
set_option maxHeartbeats 4000000 in
theorem b_Jx4a65c_add_72be8_11 {l : Launch} {G : GG} {d : Nat} {v0 : Nat} {v1 : Nat} {v2 : Nat} {v3 : Int32} {σ : Hp} {bc bs : Nat} {K : Hp → Prop} (hf : F_Jx4a65c_add_72be8_11 l G d v0 v1 v2 v3 σ bc bs K) : Wd l G (d + 1) "java/util/ArrayList" yJx4a65c_add_72be8 cJx4a65c_add_72be8 4 none 11 [(0, aR (some v0)), (1, aR (some v1)), (2, aR (some v2)), (3, aI v3)] [] σ bc bs (xM (QV K)) := by
  unfold F_Jx4a65c_add_72be8_11 at hf
  refine r_aload_n (j := 2) rfl rfl dJx4a65c_add_72be8_11 ?_
  refine r_iload_n (j := 3) rfl rfl dJx4a65c_add_72be8_12 ?_
  refine r_aload_n (j := 1) rfl rfl dJx4a65c_add_72be8_13 ?_
  obtain ⟨N_x2, f_x2, t_x2, ha_x2, ⟨vs_x2, hx_x2⟩, ht_x2, hi_x2, hf⟩ := hf
  generalize hσ1 : hset σ v2 (rA 6 N_x2 (up_ f_x2 (v3 : Int32).toNatClampNeg (some v1))) = σ1 at hf
  refine r_aast6 (f := f_x2) (x := v1) ha_x2 hx_x2 (r0 := (clz[t_x2]?).getD (RX0, TX0, 5)) (by rcases ht_x2 with rfl | rfl | rfl <;> rfl) (by rcases ht_x2 with rfl | rfl | rfl <;> simp [csz, clz, RX0, RX5, RX2]) hi_x2 dJx4a65c_add_72be8_14 ?_
  refine Eq.mpr (congrArg (fun z => Wd _ _ _ _ _ _ _ _ _ _ _ z _ _ _) hσ1) ?_
  refine r_aload_n (j := 0) rfl rfl dJx4a65c_add_72be8_15 ?_
  refine r_iload_n (j := 3) rfl rfl dJx4a65c_add_72be8_16 ?_
  refine r_iconst (v := 1) (by decide) dJx4a65c_add_72be8_17 ?_
  refine r_iadd (x := v3) (y := 1) dJx4a65c_add_72be8_18 ?_
  obtain ⟨fs_x4, ha_x4, hf⟩ := hf
  generalize hσ3 : hset σ1 v0 (.inl (13, fs_x4.set 2 (aI (v3 + 1)))) = σ3 at hf
  refine r_put (Cn := RJx4a65c) (Tt := TJx4a65c) (N := 3) (n := 2) (v := aI (v3 + 1)) rfl uw_J (Nat.le_of_ble_eq_true rfl) wd_2_42 ha_x4 (ty0 := tyJx4a65c) tyJx4a65c_ok nmJx4a65c rfl (fo_I (v3 + 1)) dJx4a65c_add_72be8_19 ?_
  rw [hσ3]
  exact r_return rfl dJx4a65c_add_72be8_22 rfl ⟨rfl, hf⟩
def F_Jx4a65c_add_72be8 (l : Launch) (G : GG) (d : Nat) (v0 : Nat) (v1 : Nat) (v2 : Nat) (v3 : Int32) (σ : Hp) (bc bs : Nat) (K : Hp → Prop) : Prop :=
  aL σ v2 fun x5 =>
  (¬ (v3 : Int32) = (x5 : Int32) →
    F_Jx4a65c_add_72be8_11 l G d v0 v1 v2 v3 σ bc bs K) ∧
  ((v3 : Int32) = (x5 : Int32) →
    ∃ mz8 sz9, mz8 ≤ bc ∧ sz9 ≤ bs ∧ C_Jx4a65c_grow_d5877 l G d mz8 sz9 v0 σ fun r7 σ6 =>
    F_Jx4a65c_add_72be8_11 l G d v0 v1 r7 v3 σ6 (bc - mz8) (bs - sz9) K)
set_option maxRecDepth 100000 in
set_option maxHeartbeats 4000000 in
theorem b_Jx4a65c_add_72be8_0 {l : Launch} {G : GG} {d : Nat} {v0 : Nat} {v1 : Nat} {v2 : Nat} {v3 : Int32} {σ : Hp} {bc bs : Nat} {K : Hp → Prop} (hf : F_Jx4a65c_add_72be8 l G d v0 v1 v2 v3 σ bc bs K) : Wd l G (d + 1) "java/util/ArrayList" yJx4a65c_add_72be8 cJx4a65c_add_72be8 4 none 0 [(0, aR (some v0)), (1, aR (some v1)), (2, aR (some v2)), (3, aI v3)] [] σ bc bs (xM (QV K)) := by
  unfold F_Jx4a65c_add_72be8 at hf
  refine r_iload_n (j := 3) rfl rfl dJx4a65c_add_72be8_0 ?_
  refine r_aload_n (j := 2) rfl rfl dJx4a65c_add_72be8_1 ?_
  obtain ⟨t_x5, N_x5, f_x5, ha_x5, hf⟩ := hf
  refine r_alen ha_x5 dJx4a65c_add_72be8_2 ?_
  generalize nI N_x5 = x5 at hf ⊢
  refine r_icmpne (x := v3) (y := x5) (tgt := 11) (by decide) dJx4a65c_add_72be8_3 (fun hc => ?_) (fun hc => ?_)
  · replace hf := hf.1 hc
    exact r_sub [0, 1, 2, 3] rfl (b_Jx4a65c_add_72be8_11 hf)
  · replace hf := hf.2 hc
    refine r_aload_n (j := 0) rfl rfl dJx4a65c_add_72be8_6 ?_
    obtain ⟨mz8, sz9, hbc, hbs, hf⟩ := hf
    try unfold C_Jx4a65c_grow_d5877 at hf
    obtain ⟨⟨fs_r7, ha_r7⟩, hf⟩ := hf
    refine r_invVN (t := 13) (As := []) (dz := d) (mz := mz8) (sz := sz9) rfl wd_3_89 wd_3_91 wd_p_13 cf_Jx4a65c_grow_d5877 (Nat.le_refl _) hbc hbs (cat_ok (Nat.le_of_ble_eq_true rfl)) rfl rfl ha_r7 dJx4a65c_add_72be8_7 hf (fun r7 σ6 hk => ?_)
    replace hf := hk
    clear hk
    refine r_astore_n (L' := [(2, aR (some r7)), (0, aR (some v0)), (1, aR (some v1)), (3, aI v3)]) rfl rfl (Nat.le_of_ble_eq_true rfl) dJx4a65c_add_72be8_10 ?_
    exact r_sub [1, 2, 0, 3] rfl (b_Jx4a65c_add_72be8_11 hf)
theorem m_Jx4a65c_add_72be8 {l : Launch} {G : GG} {d : Nat} {mc ms : Nat} {v0 : Nat} {v1 : Nat} {v2 : Nat} {v3 : Int32} {σ : Hp} {K : Hp → Prop} (hr : rv σ v0 13) (hf : F_Jx4a65c_add_72be8 l G d v0 v1 v2 v3 σ mc ms K) : C_Jx4a65c_add_72be8 l G (d + 1) mc ms v0 v1 v2 v3 σ K := ⟨hr, Sp.of (by decide) (Nat.le_of_ble_eq_true rfl) (b_Jx4a65c_add_72be8_0 hf) rfl⟩
def F_Jx4a65c_add_9ea2d (l : Launch) (G : GG) (d : Nat) (v0 : Nat) (v1 : Nat) (σ : Hp) (bc bs : Nat) (K : Bool → Hp → Prop) : Prop :=
  fI σ v0 13 0 fun x1 =>
  pF σ v0 13 0 (aI (x1 + 1)) fun σ2 =>
  fN σ2 v0 13 1 fun x4 =>
  fI σ2 v0 13 2 fun x5 =>
  ∃ mz8 sz9, mz8 ≤ bc ∧ sz9 ≤ bs ∧ C_Jx4a65c_add_72be8 l G d mz8 sz9 v0 v1 x4 x5 σ2 fun σ6 =>
  K true σ6
set_option maxRecDepth 100000 in
set_option maxHeartbeats 4000000 in
theorem b_Jx4a65c_add_9ea2d_0 {l : Launch} {G : GG} {d : Nat} {v0 : Nat} {v1 : Nat} {σ : Hp} {bc bs : Nat} {K : Bool → Hp → Prop} (hf : F_Jx4a65c_add_9ea2d l G d v0 v1 σ bc bs K) : Wd l G (d + 1) "java/util/ArrayList" yJx4a65c_add_9ea2d cJx4a65c_add_9ea2d 2 (some FieldType.boolean) 0 [(0, aR (some v0)), (1, aR (some v1))] [] σ bc bs (xM (QZ K)) := by
  unfold F_Jx4a65c_add_9ea2d at hf
  refine r_aload_n (j := 0) rfl rfl dJx4a65c_add_9ea2d_0 ?_
  refine r_dup rfl dJx4a65c_add_9ea2d_1 ?_
  obtain ⟨fs_x1, x1, ha_x1, hv_x1, hf⟩ := hf
  refine r_getS (Cn := RJx4a65c) (Tt := TJx4a65c) (N := 3) (n := 0) rfl uw_J (Nat.le_of_ble_eq_true rfl) wd_2_45 wd_2_44 ha_x1 hv_x1 dJx4a65c_add_9ea2d_2 ?_
  refine r_iconst (v := 1) (by decide) dJx4a65c_add_9ea2d_5 ?_
  refine r_iadd (x := x1) (y := 1) dJx4a65c_add_9ea2d_6 ?_
  obtain ⟨fs_x3, ha_x3, hf⟩ := hf
  generalize hσ2 : hset σ v0 (.inl (13, fs_x3.set 0 (aI (x1 + 1)))) = σ2 at hf
  refine r_putS (Cn := RJx4a65c) (Tt := TJx4a65c) (N := 3) (n := 0) (v := aI (x1 + 1)) rfl uw_J (Nat.le_of_ble_eq_true rfl) wd_2_45 wd_2_44 ha_x3 (ty0 := tyJx4a65c) tyJx4a65c_ok nmJx4a65c rfl (fo_I (x1 + 1)) dJx4a65c_add_9ea2d_7 ?_
  rw [hσ2]
  refine r_aload_n (j := 0) rfl rfl dJx4a65c_add_9ea2d_10 ?_
  refine r_aload_n (j := 1) rfl rfl dJx4a65c_add_9ea2d_11 ?_
  refine r_aload_n (j := 0) rfl rfl dJx4a65c_add_9ea2d_12 ?_
  obtain ⟨fs_x4, x4, ha_x4, hv_x4, hf⟩ := hf
  refine r_get (Cn := RJx4a65c) (Tt := TJx4a65c) (N := 3) (n := 1) rfl uw_J (Nat.le_of_ble_eq_true rfl) wd_2_41 ha_x4 hv_x4 dJx4a65c_add_9ea2d_13 ?_
  refine r_aload_n (j := 0) rfl rfl dJx4a65c_add_9ea2d_16 ?_
  obtain ⟨fs_x5, x5, ha_x5, hv_x5, hf⟩ := hf
  refine r_get (Cn := RJx4a65c) (Tt := TJx4a65c) (N := 3) (n := 2) rfl uw_J (Nat.le_of_ble_eq_true rfl) wd_2_42 ha_x5 hv_x5 dJx4a65c_add_9ea2d_17 ?_
  obtain ⟨mz8, sz9, hbc, hbs, hf⟩ := hf
  try unfold C_Jx4a65c_add_72be8 at hf
  obtain ⟨⟨fs_r7, ha_r7⟩, hf⟩ := hf
  refine r_invVU (t := 13) (As := [aR (some v1), aR (some x4), aI x5]) (dz := d) (mz := mz8) (sz := sz9) rfl wd_3_85 wd_3_87 wd_p_12 cf_Jx4a65c_add_72be8 (Nat.le_refl _) hbc hbs (cat_ok (Nat.le_of_ble_eq_true rfl)) rfl rfl ha_r7 dJx4a65c_add_9ea2d_20 hf (fun σ6 hk => ?_)
  replace hf := hk
  clear hk
  refine r_iconst (v := 1) (by decide) dJx4a65c_add_9ea2d_23 ?_
  exact r_zreturn (b := true) rfl dJx4a65c_add_9ea2d_24 rfl ⟨_, rfl, hf⟩
theorem m_Jx4a65c_add_9ea2d {l : Launch} {G : GG} {d : Nat} {mc ms : Nat} {v0 : Nat} {v1 : Nat} {σ : Hp} {K : Bool → Hp → Prop} (hr : rv σ v0 13) (hf : F_Jx4a65c_add_9ea2d l G d v0 v1 σ mc ms K) : C_Jx4a65c_add_9ea2d l G (d + 1) mc ms v0 v1 σ K := ⟨hr, Sp.of (by decide) (Nat.le_of_ble_eq_true rfl) (b_Jx4a65c_add_9ea2d_0 hf) rfl⟩
def F_J7_copyOf_1904c (l : Launch) (G : GG) (d : Nat) (v0 : Nat) (v1 : Int32) (σ : Hp) (bc bs : Nat) (K : Nat → Hp → Prop) : Prop :=
  (∃ N f, σ v0 = some (rA 6 N f)) ∧
  ∃ mz4 sz5, mz4 ≤ bc ∧ sz5 ≤ bs ∧ C_J7_copyOf_6403c l G d mz4 sz5 v0 v1 (gM G) σ fun r3 σ2 =>
  K r3 σ2
set_option maxRecDepth 100000 in
set_option maxHeartbeats 4000000 in
theorem b_J7_copyOf_1904c_0 {l : Launch} {G : GG} {d : Nat} {v0 : Nat} {v1 : Int32} {σ : Hp} {bc bs : Nat} {K : Nat → Hp → Prop} (hf : F_J7_copyOf_1904c l G d v0 v1 σ bc bs K) : Wd l G (d + 1) "java/util/Arrays" yJ7_copyOf_1904c cJ7_copyOf_1904c 2 (some (FieldType.array (FieldType.object "java/lang/Object"))) 0 [(0, aR (some v0)), (1, aI v1)] [] σ bc bs (xM (QN K)) := by
  unfold F_J7_copyOf_1904c at hf
  refine r_aload_n (j := 0) rfl rfl dJ7_copyOf_1904c_0 ?_
  refine r_iload_n (j := 1) rfl rfl dJ7_copyOf_1904c_1 ?_
  refine r_aload_n (j := 0) rfl rfl dJ7_copyOf_1904c_2 ?_
  obtain ⟨⟨N_x1, f_x1, ha_x1⟩, hf⟩ := hf
  refine r_getClass wd_3_110 wd_9_82 wd_3_111 wd_3_128 (Nat.le_add_left 1 d) (cat_ok (Nat.le_of_ble_eq_true rfl)) ha_x1 dJ7_copyOf_1904c_3 ?_
  obtain ⟨mz4, sz5, hbc, hbs, hf⟩ := hf
  try unfold C_J7_copyOf_6403c at hf
  refine r_invSN (As := [aR (some v0), aI v1, aR (some (gM G))]) (dz := d) (mz := mz4) (sz := sz5) rfl wd_3_129 wd_3_130 cf_J7_copyOf_6403c (Nat.le_refl _) hbc hbs (cat_ok (Nat.le_of_ble_eq_true rfl)) dJ7_copyOf_1904c_6 hf (fun r3 σ2 hk => ?_)
  replace hf := hk
  clear hk
  exact r_areturn rfl (Or.inr ⟨_, rfl⟩) dJ7_copyOf_1904c_9 rfl ⟨_, rfl, hf⟩
theorem m_J7_copyOf_1904c {l : Launch} {G : GG} {d : Nat} {mc ms : Nat} {v0 : Nat} {v1 : Int32} {σ : Hp} {K : Nat → Hp → Prop} (hf : F_J7_copyOf_1904c l G d v0 v1 σ mc ms K) : C_J7_copyOf_1904c l G (d + 1) mc ms v0 v1 σ K := Sp.of (by decide) (Nat.le_of_ble_eq_true rfl) (b_J7_copyOf_1904c_0 hf) rfl
def F_J7_copyOf_6403c_24 (l : Launch) (G : GG) (d : Nat) (v0 : Nat) (v1 : Int32) (s0 : Nat) (σ : Hp) (bc bs : Nat) (K : Nat → Hp → Prop) : Prop :=
  aL σ v0 fun x1 =>
  cpO σ v0 0 s0 0 (if (v1 : Int32) < x1 then v1 else x1) fun σ2 =>
  K s0 σ2
set_option maxRecDepth 100000 in
set_option maxHeartbeats 4000000 in
theorem b_J7_copyOf_6403c_24 {l : Launch} {G : GG} {d : Nat} {v0 : Nat} {v1 : Int32} {s0 : Nat} {σ : Hp} {bc bs : Nat} {K : Nat → Hp → Prop} (hf : F_J7_copyOf_6403c_24 l G d v0 v1 s0 σ bc bs K) : Wd l G (d + 1) "java/util/Arrays" yJ7_copyOf_6403c cJ7_copyOf_6403c 4 (some (FieldType.array (FieldType.object "java/lang/Object"))) 24 [(0, aR (some v0)), (1, aI v1)] [aR (some s0)] σ bc bs (xM (QN K)) := by
  unfold F_J7_copyOf_6403c_24 at hf
  refine r_astore_n (L' := [(3, aR (some s0)), (0, aR (some v0)), (1, aI v1)]) rfl rfl (Nat.le_of_ble_eq_true rfl) dJ7_copyOf_6403c_24 ?_
  refine r_aload_n (j := 1) rfl rfl dJ7_copyOf_6403c_25 ?_
  refine r_iconst (v := 0) (by decide) dJ7_copyOf_6403c_26 ?_
  refine r_aload_n (j := 0) rfl rfl dJ7_copyOf_6403c_27 ?_
  refine r_iconst (v := 0) (by decide) dJ7_copyOf_6403c_28 ?_
  refine r_aload_n (j := 1) rfl rfl dJ7_copyOf_6403c_29 ?_
  obtain ⟨t_x1, N_x1, f_x1, ha_x1, hf⟩ := hf
  refine r_alen ha_x1 dJ7_copyOf_6403c_30 ?_
  generalize nI N_x1 = x1 at hf ⊢
  refine r_iload_n (j := 2) rfl rfl dJ7_copyOf_6403c_31 ?_
  refine r_mmin (x := x1) (y := v1) wd_3_135 wd_3_136 wd_1_21 wd_3_137 (Nat.le_add_left 1 d) (cat_ok (Nat.le_of_ble_eq_true rfl)) dJ7_copyOf_6403c_32 ?_
  obtain ⟨n0_x3, f_x3, n1_x3, g_x3, ha0_x3, ha_x3, h0_x3, g1_x3, g2_x3, g3_x3, g4_x3, g5_x3, hel_x3, hf⟩ := hf
  refine r_copyO wd_3_138 wd_3_140 wd_3_139 wd_1_23 (Nat.le_add_left 1 d) (cat_ok (Nat.le_of_ble_eq_true rfl)) ha0_x3 ha_x3 h0_x3 g1_x3 g2_x3 g3_x3 g4_x3 g5_x3 hel_x3 dJ7_copyOf_6403c_35 ?_
  refine Eq.mpr (congrArg (fun z => Wd _ _ _ _ _ _ _ _ _ _ _ z _ _ _) (rfl : _ = hset σ s0 (rA 6 n1_x3 (va_cpy f_x3 g_x3 (0 : Int32).toNatClampNeg (0 : Int32).toNatClampNeg ((if (v1 : Int32) < x1 then v1 else x1) : Int32).toNatClampNeg)))) ?_
  generalize hset σ s0 (rA 6 n1_x3 (va_cpy f_x3 g_x3 (0 : Int32).toNatClampNeg (0 : Int32).toNatClampNeg ((if (v1 : Int32) < x1 then v1 else x1) : Int32).toNatClampNeg)) = σ2 at hf ⊢
  refine r_aload_n (j := 0) rfl rfl dJ7_copyOf_6403c_38 ?_
  exact r_areturn rfl (Or.inr ⟨_, rfl⟩) dJ7_copyOf_6403c_39 rfl ⟨_, rfl, hf⟩
def F_J7_copyOf_6403c (l : Launch) (G : GG) (d : Nat) (v0 : Nat) (v1 : Int32) (v2 : Nat) (σ : Hp) (bc bs : Nat) (K : Nat → Hp → Prop) : Prop :=
  (¬ ((some v2) : Option Nat) = (some (gM G)) →
    False) ∧
  (((some v2) : Option Nat) = (some (gM G)) →
    nA_ 6 σ v1 bc bs fun N6 q4 σ5 =>
    F_J7_copyOf_6403c_24 l G d v0 v1 q4 σ5 (bc - 1) (bs - N6) K)
set_option maxRecDepth 100000 in
set_option maxHeartbeats 4000000 in
theorem b_J7_copyOf_6403c_0 {l : Launch} {G : GG} {d : Nat} {v0 : Nat} {v1 : Int32} {v2 : Nat} {σ : Hp} {bc bs : Nat} {K : Nat → Hp → Prop} (hf : F_J7_copyOf_6403c l G d v0 v1 v2 σ bc bs K) : Wd l G (d + 1) "java/util/Arrays" yJ7_copyOf_6403c cJ7_copyOf_6403c 4 (some (FieldType.array (FieldType.object "java/lang/Object"))) 0 [(0, aR (some v0)), (1, aI v1), (2, aR (some v2))] [] σ bc bs (xM (QN K)) := by
  unfold F_J7_copyOf_6403c at hf
  refine r_aload_n (j := 2) rfl rfl dJ7_copyOf_6403c_0 ?_
  refine r_ldcM wd_3_132 dJ7_copyOf_6403c_1 ?_
  refine r_acmpne (o := (some v2)) (o2 := (some (gM G))) (tgt := 13) (by decide) dJ7_copyOf_6403c_3 (fun hc => ?_) (fun hc => ?_)
  · replace hf := hf.1 hc
    refine r_aload_n (j := 2) rfl rfl dJ7_copyOf_6403c_13 ?_
    exact hf.elim
  · replace hf := hf.2 hc
    refine r_iload_n (j := 1) rfl rfl dJ7_copyOf_6403c_6 ?_
    obtain ⟨N6, hn_N6, hl_N6, hbc, hbs, hf⟩ := hf
    refine r_newA6 wd_3_134 hn_N6 hl_N6 hbc hbs dJ7_copyOf_6403c_7 (fun q4 hq_q4 => ?_)
    replace hf := hf q4 hq_q4
    refine Eq.mpr (congrArg (fun z => Wd _ _ _ _ _ _ _ _ _ _ _ z _ _ _) (rfl : _ = hset σ q4 (rA 6 N6 fun _ => none))) ?_
    generalize hset σ q4 (rA 6 N6 fun _ => none) = σ5 at hf ⊢
    refine r_goto (tgt := 24) (by decide) dJ7_copyOf_6403c_10 ?_
    exact r_sub [0, 1] rfl (b_J7_copyOf_6403c_24 hf)
theorem m_J7_copyOf_6403c {l : Launch} {G : GG} {d : Nat} {mc ms : Nat} {v0 : Nat} {v1 : Int32} {v2 : Nat} {σ : Hp} {K : Nat → Hp → Prop} (hf : F_J7_copyOf_6403c l G d v0 v1 v2 σ mc ms K) : C_J7_copyOf_6403c l G (d + 1) mc ms v0 v1 v2 σ K := Sp.of (by decide) (Nat.le_of_ble_eq_true rfl) (b_J7_copyOf_6403c_0 hf) rfl
def F_J15_checkIndex_7cf53 (l : Launch) (G : GG) (d : Nat) (v0 : Int32) (v1 : Int32) (σ : Hp) (K : Int32 → Hp → Prop) : Prop :=
  C_J3_checkIndex_8e157 l G d v0 v1 none σ fun r2 σ1 =>
  K r2 σ1
set_option maxRecDepth 100000 in
set_option maxHeartbeats 4000000 in
theorem b_J15_checkIndex_7cf53_0 {l : Launch} {G : GG} {d : Nat} {v0 : Int32} {v1 : Int32} {σ : Hp} {K : Int32 → Hp → Prop} (hf : F_J15_checkIndex_7cf53 l G d v0 v1 σ K) : Wd l G (d + 1) "java/util/Objects" yJ15_checkIndex_7cf53 cJ15_checkIndex_7cf53 2 (some FieldType.int) 0 [(0, aI v0), (1, aI v1)] [] σ 0 0 (xM (QI K)) := by
  unfold F_J15_checkIndex_7cf53 at hf
  refine r_iload_n (j := 0) rfl rfl dJ15_checkIndex_7cf53_0 ?_
  refine r_iload_n (j := 1) rfl rfl dJ15_checkIndex_7cf53_1 ?_
  refine r_null dJ15_checkIndex_7cf53_2 ?_
  try unfold C_J3_checkIndex_8e157 at hf
  refine r_invSI (As := [aI v0, aI v1, aR none]) (dz := d) (mz := 0) (sz := 0) rfl wd_3_21 wd_2_181 cf_J3_checkIndex_8e157 (Nat.le_refl _) (Nat.zero_le _) (Nat.zero_le _) (cat_ok (Nat.le_of_ble_eq_true rfl)) dJ15_checkIndex_7cf53_3 hf (fun r2 σ1 hk => ?_)
  replace hf := hk
  clear hk
  exact r_ireturn rfl dJ15_checkIndex_7cf53_6 rfl ⟨_, rfl, hf⟩
theorem m_J15_checkIndex_7cf53 {l : Launch} {G : GG} {d : Nat} {v0 : Int32} {v1 : Int32} {σ : Hp} {K : Int32 → Hp → Prop} (hf : F_J15_checkIndex_7cf53 l G d v0 v1 σ K) : C_J15_checkIndex_7cf53 l G (d + 1) v0 v1 σ K := Sp.of (by decide) (Nat.le_of_ble_eq_true rfl) (b_J15_checkIndex_7cf53_0 hf) rfl
def F_J8_newLength_cabcc_21 (l : Launch) (G : GG) (d : Nat) (v0 : Int32) (v1 : Int32) (σ : Hp) (K : Int32 → Hp → Prop) : Prop :=
  C_J8_hugeLength_7cf53 l G d v0 v1 σ fun r2 σ1 =>
  K r2 σ1
set_option maxRecDepth 100000 in
set_option maxHeartbeats 4000000 in
theorem b_J8_newLength_cabcc_21 {l : Launch} {G : GG} {d : Nat} {v0 : Int32} {v1 : Int32} {σ : Hp} {K : Int32 → Hp → Prop} (hf : F_J8_newLength_cabcc_21 l G d v0 v1 σ K) : Wd l G (d + 1) "jdk/internal/util/ArraysSupport" yJ8_newLength_cabcc cJ8_newLength_cabcc 4 (some FieldType.int) 21 [(0, aI v0), (1, aI v1)] [] σ 0 0 (xM (QI K)) := by
  unfold F_J8_newLength_cabcc_21 at hf
  refine r_iload_n (j := 0) rfl rfl dJ8_newLength_cabcc_21 ?_
  refine r_iload_n (j := 1) rfl rfl dJ8_newLength_cabcc_22 ?_
  try unfold C_J8_hugeLength_7cf53 at hf
  refine r_invSI (As := [aI v0, aI v1]) (dz := d) (mz := 0) (sz := 0) rfl wd_3_104 wd_3_105 cf_J8_hugeLength_7cf53 (Nat.le_refl _) (Nat.zero_le _) (Nat.zero_le _) (cat_ok (Nat.le_of_ble_eq_true rfl)) dJ8_newLength_cabcc_23 hf (fun r2 σ1 hk => ?_)
  replace hf := hk
  clear hk
  exact r_ireturn rfl dJ8_newLength_cabcc_26 rfl ⟨_, rfl, hf⟩
def F_J8_newLength_cabcc (l : Launch) (G : GG) (d : Nat) (v0 : Int32) (v1 : Int32) (v2 : Int32) (σ : Hp) (K : Int32 → Hp → Prop) : Prop :=
  (((v0 + (if (v1 : Int32) < v2 then v2 else v1)) : Int32) ≤ (0 : Int32) →
    F_J8_newLength_cabcc_21 l G d v0 v1 σ K) ∧
  (¬ ((v0 + (if (v1 : Int32) < v2 then v2 else v1)) : Int32) ≤ (0 : Int32) →
    ((2147483639 : Int32) < ((v0 + (if (v1 : Int32) < v2 then v2 else v1)) : Int32) →
      F_J8_newLength_cabcc_21 l G d v0 v1 σ K) ∧
    (¬ (2147483639 : Int32) < ((v0 + (if (v1 : Int32) < v2 then v2 else v1)) : Int32) →
      K (v0 + (if (v1 : Int32) < v2 then v2 else v1)) σ))
set_option maxRecDepth 100000 in
set_option maxHeartbeats 4000000 in
theorem b_J8_newLength_cabcc_0 {l : Launch} {G : GG} {d : Nat} {v0 : Int32} {v1 : Int32} {v2 : Int32} {σ : Hp} {K : Int32 → Hp → Prop} (hf : F_J8_newLength_cabcc l G d v0 v1 v2 σ K) : Wd l G (d + 1) "jdk/internal/util/ArraysSupport" yJ8_newLength_cabcc cJ8_newLength_cabcc 4 (some FieldType.int) 0 [(0, aI v0), (1, aI v1), (2, aI v2)] [] σ 0 0 (xM (QI K)) := by
  unfold F_J8_newLength_cabcc at hf
  refine r_iload_n (j := 0) rfl rfl dJ8_newLength_cabcc_0 ?_
  refine r_iload_n (j := 1) rfl rfl dJ8_newLength_cabcc_1 ?_
  refine r_iload_n (j := 2) rfl rfl dJ8_newLength_cabcc_2 ?_
  refine r_mmax (x := v1) (y := v2) wd_3_100 wd_3_101 wd_1_21 wd_3_102 (Nat.le_add_left 1 d) (cat_ok (Nat.le_of_ble_eq_true rfl)) dJ8_newLength_cabcc_3 ?_
  refine r_iadd (x := v0) (y := (if (v1 : Int32) < v2 then v2 else v1)) dJ8_newLength_cabcc_6 ?_
  refine r_istore_n (L' := [(3, aI (v0 + (if (v1 : Int32) < v2 then v2 else v1))), (0, aI v0), (1, aI v1), (2, aI v2)]) rfl rfl (Nat.le_of_ble_eq_true rfl) dJ8_newLength_cabcc_7 ?_
  refine r_iconst (v := 0) (by decide) dJ8_newLength_cabcc_8 ?_
  refine r_iload_n (j := 0) rfl rfl dJ8_newLength_cabcc_9 ?_
  refine r_icmpge (x := 0) (y := (v0 + (if (v1 : Int32) < v2 then v2 else v1))) (tgt := 21) (by decide) dJ8_newLength_cabcc_10 (fun hc => ?_) (fun hc => ?_)
  · replace hf := hf.1 hc
    exact r_sub [1, 2] rfl (b_J8_newLength_cabcc_21 hf)
  · replace hf := hf.2 hc
    refine r_iload_n (j := 0) rfl rfl dJ8_newLength_cabcc_13 ?_
    refine r_ldc wd_3_103 dJ8_newLength_cabcc_14 ?_
    refine r_icmpgt (x := (v0 + (if (v1 : Int32) < v2 then v2 else v1))) (y := 2147483639) (tgt := 21) (by decide) dJ8_newLength_cabcc_16 (fun hc => ?_) (fun hc => ?_)
    · replace hf := hf.1 hc
      exact r_sub [1, 2] rfl (b_J8_newLength_cabcc_21 hf)
    · replace hf := hf.2 hc
      refine r_iload_n (j := 0) rfl rfl dJ8_newLength_cabcc_19 ?_
      exact r_ireturn rfl dJ8_newLength_cabcc_20 rfl ⟨_, rfl, hf⟩
theorem m_J8_newLength_cabcc {l : Launch} {G : GG} {d : Nat} {v0 : Int32} {v1 : Int32} {v2 : Int32} {σ : Hp} {K : Int32 → Hp → Prop} (hf : F_J8_newLength_cabcc l G d v0 v1 v2 σ K) : C_J8_newLength_cabcc l G (d + 1) v0 v1 v2 σ K := Sp.of (by decide) (Nat.le_of_ble_eq_true rfl) (b_J8_newLength_cabcc_0 hf) rfl
def F_J8_hugeLength_7cf53 (l : Launch) (G : GG) (d : Nat) (v0 : Int32) (v1 : Int32) (σ : Hp) (K : Int32 → Hp → Prop) : Prop :=
  (0 ≤ ((v0 + v1) : Int32) →
    ((2147483639 : Int32) < ((v0 + v1) : Int32) →
      K (v0 + v1) σ) ∧
    (¬ (2147483639 : Int32) < ((v0 + v1) : Int32) →
      K 2147483639 σ)) ∧
  (¬ 0 ≤ ((v0 + v1) : Int32) →
    False)
set_option maxRecDepth 100000 in
set_option maxHeartbeats 4000000 in
theorem b_J8_hugeLength_7cf53_0 {l : Launch} {G : GG} {d : Nat} {v0 : Int32} {v1 : Int32} {σ : Hp} {K : Int32 → Hp → Prop} (hf : F_J8_hugeLength_7cf53 l G d v0 v1 σ K) : Wd l G (d + 1) "jdk/internal/util/ArraysSupport" yJ8_hugeLength_7cf53 cJ8_hugeLength_7cf53 3 (some FieldType.int) 0 [(0, aI v0), (1, aI v1)] [] σ 0 0 (xM (QI K)) := by
  unfold F_J8_hugeLength_7cf53 at hf
  refine r_iload_n (j := 0) rfl rfl dJ8_hugeLength_7cf53_0 ?_
  refine r_iload_n (j := 1) rfl rfl dJ8_hugeLength_7cf53_1 ?_
  refine r_iadd (x := v0) (y := v1) dJ8_hugeLength_7cf53_2 ?_
  refine r_istore_n (L' := [(2, aI (v0 + v1)), (0, aI v0), (1, aI v1)]) rfl rfl (Nat.le_of_ble_eq_true rfl) dJ8_hugeLength_7cf53_3 ?_
  refine r_iload_n (j := 0) rfl rfl dJ8_hugeLength_7cf53_4 ?_
  refine r_ifge (x := (v0 + v1)) (tgt := 49) (by decide) dJ8_hugeLength_7cf53_5 (fun hc => ?_) (fun hc => ?_)
  · replace hf := hf.1 hc
    refine r_iload_n (j := 0) rfl rfl dJ8_hugeLength_7cf53_49 ?_
    refine r_ldc wd_3_103 dJ8_hugeLength_7cf53_50 ?_
    refine r_icmpgt (x := (v0 + v1)) (y := 2147483639) (tgt := 58) (by decide) dJ8_hugeLength_7cf53_52 (fun hc => ?_) (fun hc => ?_)
    · replace hf := hf.1 hc
      refine r_iload_n (j := 0) rfl rfl dJ8_hugeLength_7cf53_58 ?_
      exact r_ireturn rfl dJ8_hugeLength_7cf53_59 rfl ⟨_, rfl, hf⟩
    · replace hf := hf.2 hc
      refine r_ldc wd_3_103 dJ8_hugeLength_7cf53_55 ?_
      exact r_ireturn rfl dJ8_hugeLength_7cf53_57 rfl ⟨_, rfl, hf⟩
  · replace hf := hf.2 hc
    exact hf.elim
theorem m_J8_hugeLength_7cf53 {l : Launch} {G : GG} {d : Nat} {v0 : Int32} {v1 : Int32} {σ : Hp} {K : Int32 → Hp → Prop} (hf : F_J8_hugeLength_7cf53 l G d v0 v1 σ K) : C_J8_hugeLength_7cf53 l G (d + 1) v0 v1 σ K := Sp.of (by decide) (Nat.le_of_ble_eq_true rfl) (b_J8_hugeLength_7cf53_0 hf) rfl
def F_J3_checkIndex_8e157_9 (l : Launch) (G : GG) (d : Nat) (v0 : Int32) (v1 : Int32) (v2 : Option Nat) (σ : Hp) (K : Int32 → Hp → Prop) : Prop :=
  False
set_option maxRecDepth 100000 in
set_option maxHeartbeats 4000000 in
theorem b_J3_checkIndex_8e157_9 {l : Launch} {G : GG} {d : Nat} {v0 : Int32} {v1 : Int32} {v2 : Option Nat} {σ : Hp} {K : Int32 → Hp → Prop} (hf : F_J3_checkIndex_8e157_9 l G d v0 v1 v2 σ K) : Wd l G (d + 1) "jdk/internal/util/Preconditions" yJ3_checkIndex_8e157 cJ3_checkIndex_8e157 3 (some FieldType.int) 9 [(0, aI v0), (1, aI v1), (2, aR v2)] [] σ 0 0 (xM (QI K)) := by
  unfold F_J3_checkIndex_8e157_9 at hf
  refine r_aload_n (j := 2) rfl rfl dJ3_checkIndex_8e157_9 ?_
  refine r_iload_n (j := 0) rfl rfl dJ3_checkIndex_8e157_10 ?_
  refine r_iload_n (j := 1) rfl rfl dJ3_checkIndex_8e157_11 ?_
  exact hf.elim
def F_J3_checkIndex_8e157 (l : Launch) (G : GG) (d : Nat) (v0 : Int32) (v1 : Int32) (v2 : Option Nat) (σ : Hp) (K : Int32 → Hp → Prop) : Prop :=
  ((v0 : Int32) < 0 →
    F_J3_checkIndex_8e157_9 l G d v0 v1 v2 σ K) ∧
  (¬ (v0 : Int32) < 0 →
    ((v0 : Int32) < (v1 : Int32) →
      K v0 σ) ∧
    (¬ (v0 : Int32) < (v1 : Int32) →
      F_J3_checkIndex_8e157_9 l G d v0 v1 v2 σ K))
set_option maxRecDepth 100000 in
set_option maxHeartbeats 4000000 in
theorem b_J3_checkIndex_8e157_0 {l : Launch} {G : GG} {d : Nat} {v0 : Int32} {v1 : Int32} {v2 : Option Nat} {σ : Hp} {K : Int32 → Hp → Prop} (hf : F_J3_checkIndex_8e157 l G d v0 v1 v2 σ K) : Wd l G (d + 1) "jdk/internal/util/Preconditions" yJ3_checkIndex_8e157 cJ3_checkIndex_8e157 3 (some FieldType.int) 0 [(0, aI v0), (1, aI v1), (2, aR v2)] [] σ 0 0 (xM (QI K)) := by
  unfold F_J3_checkIndex_8e157 at hf
  refine r_iload_n (j := 0) rfl rfl dJ3_checkIndex_8e157_0 ?_
  refine r_iflt (x := v0) (tgt := 9) (by decide) dJ3_checkIndex_8e157_1 (fun hc => ?_) (fun hc => ?_)
  · replace hf := hf.1 hc
    exact r_sub [0, 1, 2] rfl (b_J3_checkIndex_8e157_9 hf)
  · replace hf := hf.2 hc
    refine r_iload_n (j := 0) rfl rfl dJ3_checkIndex_8e157_4 ?_
    refine r_iload_n (j := 1) rfl rfl dJ3_checkIndex_8e157_5 ?_
    refine r_icmplt (x := v0) (y := v1) (tgt := 16) (by decide) dJ3_checkIndex_8e157_6 (fun hc => ?_) (fun hc => ?_)
    · replace hf := hf.1 hc
      refine r_iload_n (j := 0) rfl rfl dJ3_checkIndex_8e157_16 ?_
      exact r_ireturn rfl dJ3_checkIndex_8e157_17 rfl ⟨_, rfl, hf⟩
    · replace hf := hf.2 hc
      exact r_sub [0, 1, 2] rfl (b_J3_checkIndex_8e157_9 hf)
theorem m_J3_checkIndex_8e157 {l : Launch} {G : GG} {d : Nat} {v0 : Int32} {v1 : Int32} {v2 : Option Nat} {σ : Hp} {K : Int32 → Hp → Prop} (hf : F_J3_checkIndex_8e157 l G d v0 v1 v2 σ K) : C_J3_checkIndex_8e157 l G (d + 1) v0 v1 v2 σ K := Sp.of (by decide) (Nat.le_of_ble_eq_true rfl) (b_J3_checkIndex_8e157_0 hf) rfl
