/-! 20.law: written by wip/whole/gen.py -/
def F_L_law_1385 (l : Launch) (G : GG) (d : Nat) (X23 : Nat → Nat → Nat → Nat → Int32 → Hp → Nat → Nat → Prop) (v0 : Nat) (v1 : Nat) (v2 : Nat) (v3 : Nat) (v4 : Int32) (σ : Hp) (bc bs : Nat) (K : Bool → Hp → Prop) : Prop :=
  X23 v0 v1 v2 v3 (v4 + 6) σ bc bs
set_option maxRecDepth 100000 in
set_option maxHeartbeats 4000000 in
theorem b_L_law_1385 {l : Launch} {G : GG} {d : Nat} {X23 : Nat → Nat → Nat → Nat → Int32 → Hp → Nat → Nat → Prop} {v0 : Nat} {v1 : Nat} {v2 : Nat} {v3 : Nat} {v4 : Int32} {σ : Hp} {bc bs : Nat} {K : Bool → Hp → Prop} (hX23 : ∀ v0 v1 v2 v3 v4 σ bc bs, X23 v0 v1 v2 v3 v4 σ bc bs → Wd l G (d + 1) "CoinsLaidLaw" yL_law cL_law 7 (some .boolean) 23 [(0, aR (some v0)), (1, aR (some v1)), (2, aR (some v2)), (3, aR (some v3)), (4, aI v4)] [] σ bc bs (xL K)) (hf : F_L_law_1385 l G d X23 v0 v1 v2 v3 v4 σ bc bs K) : Wd l G (d + 1) "CoinsLaidLaw" yL_law cL_law 7 (some .boolean) 1385 [(0, aR (some v0)), (1, aR (some v1)), (2, aR (some v2)), (3, aR (some v3)), (4, aI v4)] [] σ bc bs (xL K) := by
  unfold F_L_law_1385 at hf
  refine r_iinc (j := 4) (w := (v4 + 6)) (L' := [(4, aI (v4 + 6)), (0, aR (some v0)), (1, aR (some v1)), (2, aR (some v2)), (3, aR (some v3))]) rfl (by rfl) rfl (Nat.le_of_ble_eq_true rfl) dL_law_1385 ?_
  refine r_goto (tgt := 23) (by decide) dL_law_1388 ?_
  exact r_sub [1, 2, 3, 4, 0] rfl (hX23 _ _ _ _ _ _ _ _ hf)
def F_L_law_1344 (l : Launch) (G : GG) (d : Nat) (X23 : Nat → Nat → Nat → Nat → Int32 → Hp → Nat → Nat → Prop) (v0 : Nat) (v1 : Nat) (v2 : Nat) (v3 : Nat) (v4 : Int32) (σ : Hp) (bc bs : Nat) (K : Bool → Hp → Prop) : Prop :=
  F_L_law_1385 l G d X23 v0 v1 v2 v3 v4 σ bc bs K
set_option maxRecDepth 100000 in
set_option maxHeartbeats 4000000 in
theorem b_L_law_1344 {l : Launch} {G : GG} {d : Nat} {X23 : Nat → Nat → Nat → Nat → Int32 → Hp → Nat → Nat → Prop} {v0 : Nat} {v1 : Nat} {v2 : Nat} {v3 : Nat} {v4 : Int32} {σ : Hp} {bc bs : Nat} {K : Bool → Hp → Prop} (hX23 : ∀ v0 v1 v2 v3 v4 σ bc bs, X23 v0 v1 v2 v3 v4 σ bc bs → Wd l G (d + 1) "CoinsLaidLaw" yL_law cL_law 7 (some .boolean) 23 [(0, aR (some v0)), (1, aR (some v1)), (2, aR (some v2)), (3, aR (some v3)), (4, aI v4)] [] σ bc bs (xL K)) (hf : F_L_law_1344 l G d X23 v0 v1 v2 v3 v4 σ bc bs K) : Wd l G (d + 1) "CoinsLaidLaw" yL_law cL_law 7 (some .boolean) 1344 [(0, aR (some v0)), (1, aR (some v1)), (2, aR (some v2)), (3, aR (some v3)), (4, aI v4)] [] σ bc bs (xL K) := by
  unfold F_L_law_1344 at hf
  refine r_goto (tgt := 1385) (by decide) dL_law_1344 ?_
  exact r_sub [0, 1, 2, 3, 4] rfl (b_L_law_1385 hX23 hf)
def F_L_law_1020 (l : Launch) (G : GG) (d : Nat) (X23 : Nat → Nat → Nat → Nat → Int32 → Hp → Nat → Nat → Prop) (v0 : Nat) (v1 : Nat) (v2 : Nat) (v3 : Nat) (v4 : Int32) (s0 : Int32) (s1 : Nat) (s2 : Int32) (s3 : Bool) (σ : Hp) (bc bs : Nat) (K : Bool → Hp → Prop) : Prop :=
  C_X12_round l G d s1 s2 s3 σ fun r2 σ1 =>
  ((s0 : Int32) = (r2 : Int32) →
    F_L_law_1385 l G d X23 v0 v1 v2 v3 v4 σ1 bc bs K) ∧
  (¬ (s0 : Int32) = (r2 : Int32) →
    K false σ1)
set_option maxRecDepth 100000 in
set_option maxHeartbeats 4000000 in
theorem b_L_law_1020 {l : Launch} {G : GG} {d : Nat} {X23 : Nat → Nat → Nat → Nat → Int32 → Hp → Nat → Nat → Prop} {v0 : Nat} {v1 : Nat} {v2 : Nat} {v3 : Nat} {v4 : Int32} {s0 : Int32} {s1 : Nat} {s2 : Int32} {s3 : Bool} {σ : Hp} {bc bs : Nat} {K : Bool → Hp → Prop} (hX23 : ∀ v0 v1 v2 v3 v4 σ bc bs, X23 v0 v1 v2 v3 v4 σ bc bs → Wd l G (d + 1) "CoinsLaidLaw" yL_law cL_law 7 (some .boolean) 23 [(0, aR (some v0)), (1, aR (some v1)), (2, aR (some v2)), (3, aR (some v3)), (4, aI v4)] [] σ bc bs (xL K)) (hf : F_L_law_1020 l G d X23 v0 v1 v2 v3 v4 s0 s1 s2 s3 σ bc bs K) : Wd l G (d + 1) "CoinsLaidLaw" yL_law cL_law 7 (some .boolean) 1020 [(0, aR (some v0)), (1, aR (some v1)), (2, aR (some v2)), (3, aR (some v3)), (4, aI v4)] [aI (bi s3), aI s2, aR (some s1), aI s0] σ bc bs (xL K) := by
  unfold F_L_law_1020 at hf
  try unfold C_X12_round at hf
  obtain ⟨⟨fs_r2, ha_r2⟩, hf⟩ := hf
  refine r_invVI (t := 12) (As := [aI s2, aI (bi s3)]) (dz := d) (mz := 0) (sz := 0) rfl wd_8_213 wd_8_214 wd_8_215 cf_X12_round (Nat.le_refl _) (Nat.zero_le _) (Nat.zero_le _) (cat_ok (Nat.le_of_ble_eq_true rfl)) rfl rfl ha_r2 dL_law_1020 hf (fun r2 σ1 hk => ?_)
  replace hf := hk
  clear hk
  refine r_icmpeq (x := s0) (y := r2) (tgt := 1385) (by decide) dL_law_1023 (fun hc => ?_) (fun hc => ?_)
  · replace hf := hf.1 hc
    exact r_sub [0, 1, 2, 3, 4] rfl (b_L_law_1385 hX23 hf)
  · replace hf := hf.2 hc
    refine r_iconst (v := 0) (by decide) dL_law_1026 ?_
    exact r_lawret (b := false) dL_law_1027 hf
def F_L_law_996 (l : Launch) (G : GG) (d : Nat) (X23 : Nat → Nat → Nat → Nat → Int32 → Hp → Nat → Nat → Prop) (v0 : Nat) (v1 : Nat) (v2 : Nat) (v3 : Nat) (v4 : Int32) (s0 : Nat) (s1 : Int32) (s2 : Bool) (σ : Hp) (bc bs : Nat) (K : Bool → Hp → Prop) : Prop :=
  C_X11_round l G d s0 s1 s2 σ fun r4 σ3 =>
  gScr σ3 v0 (v4 + 1) fun x5 =>
  gScr σ3 v0 (v4 + 2) fun x6 =>
  ((x6 : Int32) = 0 →
    F_L_law_1020 l G d X23 v0 v1 v2 v3 v4 r4 v2 x5 false σ3 bc bs K) ∧
  (¬ (x6 : Int32) = 0 →
    F_L_law_1020 l G d X23 v0 v1 v2 v3 v4 r4 v2 x5 true σ3 bc bs K)
set_option maxRecDepth 100000 in
set_option maxHeartbeats 4000000 in
theorem b_L_law_996 {l : Launch} {G : GG} {d : Nat} {X23 : Nat → Nat → Nat → Nat → Int32 → Hp → Nat → Nat → Prop} {v0 : Nat} {v1 : Nat} {v2 : Nat} {v3 : Nat} {v4 : Int32} {s0 : Nat} {s1 : Int32} {s2 : Bool} {σ : Hp} {bc bs : Nat} {K : Bool → Hp → Prop} (hX23 : ∀ v0 v1 v2 v3 v4 σ bc bs, X23 v0 v1 v2 v3 v4 σ bc bs → Wd l G (d + 1) "CoinsLaidLaw" yL_law cL_law 7 (some .boolean) 23 [(0, aR (some v0)), (1, aR (some v1)), (2, aR (some v2)), (3, aR (some v3)), (4, aI v4)] [] σ bc bs (xL K)) (hf : F_L_law_996 l G d X23 v0 v1 v2 v3 v4 s0 s1 s2 σ bc bs K) : Wd l G (d + 1) "CoinsLaidLaw" yL_law cL_law 7 (some .boolean) 996 [(0, aR (some v0)), (1, aR (some v1)), (2, aR (some v2)), (3, aR (some v3)), (4, aI v4)] [aI (bi s2), aI s1, aR (some s0)] σ bc bs (xL K) := by
  unfold F_L_law_996 at hf
  try unfold C_X11_round at hf
  obtain ⟨⟨fs_r4, ha_r4⟩, hf⟩ := hf
  refine r_invVI (t := 11) (As := [aI s1, aI (bi s2)]) (dz := d) (mz := 0) (sz := 0) rfl wd_5_187 wd_5_188 wd_5_189 cf_X11_round (Nat.le_refl _) (Nat.zero_le _) (Nat.zero_le _) (cat_ok (Nat.le_of_ble_eq_true rfl)) rfl rfl ha_r4 dL_law_996 hf (fun r4 σ3 hk => ?_)
  replace hf := hk
  clear hk
  refine r_aload_n (j := 2) rfl rfl dL_law_999 ?_
  refine r_aload_n (j := 0) rfl rfl dL_law_1000 ?_
  refine r_iload (j := 4) rfl dL_law_1001 ?_
  refine r_iconst (v := 1) (by decide) dL_law_1003 ?_
  refine r_iadd (x := v4) (y := 1) dL_law_1004 ?_
  obtain ⟨N_x5, f_x5, ha_x5, hi_x5, hf⟩ := hf
  refine r_sald ha_x5 hi_x5 dL_law_1005 ?_
  generalize f_x5 ((v4 + 1) : Int32).toNatClampNeg = x5 at hf ⊢
  refine r_aload_n (j := 0) rfl rfl dL_law_1006 ?_
  refine r_iload (j := 4) rfl dL_law_1007 ?_
  refine r_iconst (v := 2) (by decide) dL_law_1009 ?_
  refine r_iadd (x := v4) (y := 2) dL_law_1010 ?_
  obtain ⟨N_x6, f_x6, ha_x6, hi_x6, hf⟩ := hf
  refine r_sald ha_x6 hi_x6 dL_law_1011 ?_
  generalize f_x6 ((v4 + 2) : Int32).toNatClampNeg = x6 at hf ⊢
  refine r_ifeq (x := x6) (tgt := 1019) (by decide) dL_law_1012 (fun hc => ?_) (fun hc => ?_)
  · replace hf := hf.1 hc
    refine r_iconst (v := 0) (by decide) dL_law_1019 ?_
    exact r_sub [0, 1, 2, 3, 4] rfl (b_L_law_1020 hX23 hf)
  · replace hf := hf.2 hc
    refine r_iconst (v := 1) (by decide) dL_law_1015 ?_
    refine r_goto (tgt := 1020) (by decide) dL_law_1016 ?_
    exact r_sub [0, 1, 2, 3, 4] rfl (b_L_law_1020 hX23 hf)
def F_L_law_23 (l : Launch) (G : GG) (d : Nat) (X23 : Nat → Nat → Nat → Nat → Int32 → Hp → Nat → Nat → Prop) (v0 : Nat) (v1 : Nat) (v2 : Nat) (v3 : Nat) (v4 : Int32) (σ : Hp) (bc bs : Nat) (K : Bool → Hp → Prop) : Prop :=
  aL σ v0 fun x7 =>
  (((x7 - 6) : Int32) < (v4 : Int32) →
    K true σ) ∧
  (¬ ((x7 - 6) : Int32) < (v4 : Int32) →
    gScr σ v0 v4 fun x8 =>
    (((x8 &&& 63) : Int32) = 0 →
      gScr σ v0 (v4 + 1) fun x9 =>
      gScr σ v0 (v4 + 2) fun x10 =>
      gScr σ v0 (v4 + 3) fun x11 =>
      gScr σ v0 (v4 + 4) fun x12 =>
      gScr σ v0 (v4 + 5) fun x13 =>
      C_X11_feed l G d v1 x9 x10 x11 x12 x13 σ fun r15 σ14 =>
      gScr σ14 v0 (v4 + 1) fun x16 =>
      gScr σ14 v0 (v4 + 2) fun x17 =>
      gScr σ14 v0 (v4 + 3) fun x18 =>
      gScr σ14 v0 (v4 + 4) fun x19 =>
      gScr σ14 v0 (v4 + 5) fun x20 =>
      C_X12_feed l G d v2 x16 x17 x18 x19 x20 σ14 fun r22 σ21 =>
      ((r15 : Int32) = (r22 : Int32) →
        F_L_law_1385 l G d X23 v0 v1 v2 v3 v4 σ21 bc bs K) ∧
      (¬ (r15 : Int32) = (r22 : Int32) →
        K false σ21)) ∧
    (((x8 &&& 63) : Int32) = 1 →
      gScr σ v0 (v4 + 1) fun x23 =>
      ∃ mz26 sz27, mz26 ≤ bc ∧ sz27 ≤ bs ∧ C_X11_table l G d mz26 sz27 v1 x23 σ fun r25 σ24 =>
      gScr σ24 v0 (v4 + 1) fun x28 =>
      C_X12_table l G d v2 x28 σ24 fun r30 σ29 =>
      ((r25 : Int32) = (r30 : Int32) →
        F_L_law_1385 l G d X23 v0 v1 v2 v3 v4 σ29 (bc - mz26) (bs - sz27) K) ∧
      (¬ (r25 : Int32) = (r30 : Int32) →
        K false σ29)) ∧
    (((x8 &&& 63) : Int32) = 2 →
      C_X11_fault l G d v1 σ fun r32 σ31 =>
      C_X12_fault l G d v2 σ31 fun r34 σ33 =>
      ((r32 : Int32) = (r34 : Int32) →
        F_L_law_1385 l G d X23 v0 v1 v2 v3 v4 σ33 bc bs K) ∧
      (¬ (r32 : Int32) = (r34 : Int32) →
        K false σ33)) ∧
    (((x8 &&& 63) : Int32) = 3 →
      C_X11_where l G d v1 σ fun r36 σ35 =>
      C_X12_where l G d v2 σ35 fun r38 σ37 =>
      ((r36 : Int32) = (r38 : Int32) →
        F_L_law_1385 l G d X23 v0 v1 v2 v3 v4 σ37 bc bs K) ∧
      (¬ (r36 : Int32) = (r38 : Int32) →
        K false σ37)) ∧
    (((x8 &&& 63) : Int32) = 4 →
      gScr σ v0 (v4 + 1) fun x39 =>
      gScr σ v0 (v4 + 2) fun x40 =>
      C_X11_lay l G d v1 x39 x40 σ fun r42 σ41 =>
      gScr σ41 v0 (v4 + 1) fun x43 =>
      gScr σ41 v0 (v4 + 2) fun x44 =>
      C_X12_lay l G d v2 x43 x44 σ41 fun r46 σ45 =>
      ((r42 : Int32) = (r46 : Int32) →
        F_L_law_1385 l G d X23 v0 v1 v2 v3 v4 σ45 bc bs K) ∧
      (¬ (r42 : Int32) = (r46 : Int32) →
        K false σ45)) ∧
    (((x8 &&& 63) : Int32) = 5 →
      gScr σ v0 (v4 + 1) fun x47 =>
      gScr σ v0 (v4 + 2) fun x48 =>
      gScr σ v0 (v4 + 3) fun x49 =>
      gScr σ v0 (v4 + 4) fun x50 =>
      gScr σ v0 (v4 + 5) fun x51 =>
      C_X11_layOf l G d v1 x47 x48 x49 x50 x51 σ fun r53 σ52 =>
      gScr σ52 v0 (v4 + 1) fun x54 =>
      gScr σ52 v0 (v4 + 2) fun x55 =>
      gScr σ52 v0 (v4 + 3) fun x56 =>
      gScr σ52 v0 (v4 + 4) fun x57 =>
      gScr σ52 v0 (v4 + 5) fun x58 =>
      C_X12_layOf l G d v2 x54 x55 x56 x57 x58 σ52 fun r60 σ59 =>
      ((r53 : Int32) = (r60 : Int32) →
        F_L_law_1385 l G d X23 v0 v1 v2 v3 v4 σ59 bc bs K) ∧
      (¬ (r53 : Int32) = (r60 : Int32) →
        K false σ59)) ∧
    (((x8 &&& 63) : Int32) = 6 →
      gScr σ v0 (v4 + 1) fun x61 =>
      C_X11_may l G d v1 x61 σ fun r63 σ62 =>
      gScr σ62 v0 (v4 + 1) fun x64 =>
      C_X12_may l G d v2 x64 σ62 fun r66 σ65 =>
      ((r63 : Int32) = (r66 : Int32) →
        F_L_law_1385 l G d X23 v0 v1 v2 v3 v4 σ65 bc bs K) ∧
      (¬ (r63 : Int32) = (r66 : Int32) →
        K false σ65)) ∧
    (((x8 &&& 63) : Int32) = 7 →
      C_X11_lays l G d v1 σ fun r68 σ67 =>
      C_X12_lays l G d v2 σ67 fun r70 σ69 =>
      ((r68 : Int32) = (r70 : Int32) →
        F_L_law_1385 l G d X23 v0 v1 v2 v3 v4 σ69 bc bs K) ∧
      (¬ (r68 : Int32) = (r70 : Int32) →
        K false σ69)) ∧
    (((x8 &&& 63) : Int32) = 8 →
      gScr σ v0 (v4 + 1) fun x71 =>
      C_X11_layAt l G d v1 x71 σ fun r73 σ72 =>
      gScr σ72 v0 (v4 + 1) fun x74 =>
      C_X12_layAt l G d v2 x74 σ72 fun r76 σ75 =>
      ((r73 : Int32) = (r76 : Int32) →
        F_L_law_1385 l G d X23 v0 v1 v2 v3 v4 σ75 bc bs K) ∧
      (¬ (r73 : Int32) = (r76 : Int32) →
        K false σ75)) ∧
    (((x8 &&& 63) : Int32) = 9 →
      gScr σ v0 (v4 + 1) fun x77 =>
      C_X11_across l G d v1 x77 σ fun r79 σ78 =>
      gScr σ78 v0 (v4 + 1) fun x80 =>
      C_X12_across l G d v2 x80 σ78 fun r82 σ81 =>
      ((r79 : Int32) = (r82 : Int32) →
        F_L_law_1385 l G d X23 v0 v1 v2 v3 v4 σ81 bc bs K) ∧
      (¬ (r79 : Int32) = (r82 : Int32) →
        K false σ81)) ∧
    (((x8 &&& 63) : Int32) = 10 →
      C_X11_taken l G d v1 σ fun r84 σ83 =>
      C_X12_taken l G d v2 σ83 fun r86 σ85 =>
      ((r84 : Int32) = (r86 : Int32) →
        F_L_law_1385 l G d X23 v0 v1 v2 v3 v4 σ85 bc bs K) ∧
      (¬ (r84 : Int32) = (r86 : Int32) →
        K false σ85)) ∧
    (((x8 &&& 63) : Int32) = 11 →
      C_X11_dead l G d v1 σ fun r88 σ87 =>
      C_X12_dead l G d v2 σ87 fun r90 σ89 =>
      ((r88 : Int32) = (r90 : Int32) →
        F_L_law_1385 l G d X23 v0 v1 v2 v3 v4 σ89 bc bs K) ∧
      (¬ (r88 : Int32) = (r90 : Int32) →
        K false σ89)) ∧
    (((x8 &&& 63) : Int32) = 12 →
      C_X11_over l G d v1 σ fun r92 σ91 =>
      C_X12_over l G d v2 σ91 fun r94 σ93 =>
      ((r92 : Int32) = (r94 : Int32) →
        F_L_law_1385 l G d X23 v0 v1 v2 v3 v4 σ93 bc bs K) ∧
      (¬ (r92 : Int32) = (r94 : Int32) →
        K false σ93)) ∧
    (((x8 &&& 63) : Int32) = 13 →
      C_X11_has l G d v1 σ fun r96 σ95 =>
      C_X12_has l G d v2 σ95 fun r98 σ97 =>
      ((r96 : Int32) = (r98 : Int32) →
        F_L_law_1385 l G d X23 v0 v1 v2 v3 v4 σ97 bc bs K) ∧
      (¬ (r96 : Int32) = (r98 : Int32) →
        K false σ97)) ∧
    (((x8 &&& 63) : Int32) = 14 →
      C_X11_best l G d v1 σ fun r100 σ99 =>
      C_X12_best l G d v2 σ99 fun r102 σ101 =>
      ((r100 : Int32) = (r102 : Int32) →
        F_L_law_1385 l G d X23 v0 v1 v2 v3 v4 σ101 bc bs K) ∧
      (¬ (r100 : Int32) = (r102 : Int32) →
        K false σ101)) ∧
    (((x8 &&& 63) : Int32) = 15 →
      C_X11_good l G d v1 σ fun r104 σ103 =>
      C_X12_good l G d v2 σ103 fun r106 σ105 =>
      ((r104 : Int32) = (r106 : Int32) →
        F_L_law_1385 l G d X23 v0 v1 v2 v3 v4 σ105 bc bs K) ∧
      (¬ (r104 : Int32) = (r106 : Int32) →
        K false σ105)) ∧
    (((x8 &&& 63) : Int32) = 16 →
      C_X11_soonest l G d v1 σ fun r108 σ107 =>
      C_X12_soonest l G d v2 σ107 fun r110 σ109 =>
      ((r108 : Int32) = (r110 : Int32) →
        F_L_law_1385 l G d X23 v0 v1 v2 v3 v4 σ109 bc bs K) ∧
      (¬ (r108 : Int32) = (r110 : Int32) →
        K false σ109)) ∧
    (((x8 &&& 63) : Int32) = 17 →
      C_X11_ways l G d v1 σ fun r112 σ111 =>
      C_X12_ways l G d v2 σ111 fun r114 σ113 =>
      (((lg_cmp r112 r114) : Int32) = 0 →
        F_L_law_1385 l G d X23 v0 v1 v2 v3 v4 σ113 bc bs K) ∧
      (¬ ((lg_cmp r112 r114) : Int32) = 0 →
        K false σ113)) ∧
    (((x8 &&& 63) : Int32) = 18 →
      gScr σ v0 (v4 + 1) fun x115 =>
      C_X11_heap l G d v1 x115 σ fun r117 σ116 =>
      gScr σ116 v0 (v4 + 1) fun x118 =>
      C_X12_heap l G d v2 x118 σ116 fun r120 σ119 =>
      ((r117 : Int32) = (r120 : Int32) →
        F_L_law_1385 l G d X23 v0 v1 v2 v3 v4 σ119 bc bs K) ∧
      (¬ (r117 : Int32) = (r120 : Int32) →
        K false σ119)) ∧
    (((x8 &&& 63) : Int32) = 19 →
      C_X11_byAcross l G d v1 σ fun r122 σ121 =>
      C_X12_byAcross l G d v2 σ121 fun r124 σ123 =>
      ((r122 : Int32) = (r124 : Int32) →
        F_L_law_1385 l G d X23 v0 v1 v2 v3 v4 σ123 bc bs K) ∧
      (¬ (r122 : Int32) = (r124 : Int32) →
        K false σ123)) ∧
    (((x8 &&& 63) : Int32) = 20 →
      gScr σ v0 (v4 + 1) fun x125 =>
      C_X11_half l G d v1 x125 σ fun r127 σ126 =>
      gScr σ126 v0 (v4 + 1) fun x128 =>
      C_X12_half l G d v2 x128 σ126 fun r130 σ129 =>
      ((r127 : Int32) = (r130 : Int32) →
        F_L_law_1385 l G d X23 v0 v1 v2 v3 v4 σ129 bc bs K) ∧
      (¬ (r127 : Int32) = (r130 : Int32) →
        K false σ129)) ∧
    (((x8 &&& 63) : Int32) = 21 →
      gScr σ v0 (v4 + 1) fun x131 =>
      C_X11_spoils l G d v1 x131 σ fun r133 σ132 =>
      gScr σ132 v0 (v4 + 1) fun x134 =>
      C_X12_spoils l G d v2 x134 σ132 fun r136 σ135 =>
      ((r133 : Int32) = (r136 : Int32) →
        F_L_law_1385 l G d X23 v0 v1 v2 v3 v4 σ135 bc bs K) ∧
      (¬ (r133 : Int32) = (r136 : Int32) →
        K false σ135)) ∧
    (((x8 &&& 63) : Int32) = 22 →
      gScr σ v0 (v4 + 1) fun x137 =>
      C_X11_open l G d v1 x137 σ fun r139 σ138 =>
      gScr σ138 v0 (v4 + 1) fun x140 =>
      C_X12_open l G d v2 x140 σ138 fun r142 σ141 =>
      ((r139 : Int32) = (r142 : Int32) →
        F_L_law_1385 l G d X23 v0 v1 v2 v3 v4 σ141 bc bs K) ∧
      (¬ (r139 : Int32) = (r142 : Int32) →
        K false σ141)) ∧
    (((x8 &&& 63) : Int32) = 23 →
      C_X11_elbow l G d v1 σ fun r144 σ143 =>
      C_X12_elbow l G d v2 σ143 fun r146 σ145 =>
      ((r144 : Int32) = (r146 : Int32) →
        F_L_law_1385 l G d X23 v0 v1 v2 v3 v4 σ145 bc bs K) ∧
      (¬ (r144 : Int32) = (r146 : Int32) →
        K false σ145)) ∧
    (((x8 &&& 63) : Int32) = 24 →
      C_X11_fewest l G d v1 σ fun r148 σ147 =>
      C_X12_fewest l G d v2 σ147 fun r150 σ149 =>
      ((r148 : Int32) = (r150 : Int32) →
        F_L_law_1385 l G d X23 v0 v1 v2 v3 v4 σ149 bc bs K) ∧
      (¬ (r148 : Int32) = (r150 : Int32) →
        K false σ149)) ∧
    (((x8 &&& 63) : Int32) = 25 →
      C_X11_most l G d v1 σ fun r152 σ151 =>
      C_X12_most l G d v2 σ151 fun r154 σ153 =>
      ((r152 : Int32) = (r154 : Int32) →
        F_L_law_1385 l G d X23 v0 v1 v2 v3 v4 σ153 bc bs K) ∧
      (¬ (r152 : Int32) = (r154 : Int32) →
        K false σ153)) ∧
    (((x8 &&& 63) : Int32) = 26 →
      C_X11_lot l G d v1 σ fun r156 σ155 =>
      C_X12_lot l G d v2 σ155 fun r158 σ157 =>
      ((r156 : Int32) = (r158 : Int32) →
        F_L_law_1385 l G d X23 v0 v1 v2 v3 v4 σ157 bc bs K) ∧
      (¬ (r156 : Int32) = (r158 : Int32) →
        K false σ157)) ∧
    (((x8 &&& 63) : Int32) = 27 →
      gScr σ v0 (v4 + 1) fun x159 =>
      gScr σ v0 (v4 + 2) fun x160 =>
      C_X11_size l G d v1 x159 x160 σ fun r162 σ161 =>
      gScr σ161 v0 (v4 + 1) fun x163 =>
      gScr σ161 v0 (v4 + 2) fun x164 =>
      C_X12_size l G d v2 x163 x164 σ161 fun r166 σ165 =>
      ((r162 : Int32) = (r166 : Int32) →
        F_L_law_1385 l G d X23 v0 v1 v2 v3 v4 σ165 bc bs K) ∧
      (¬ (r162 : Int32) = (r166 : Int32) →
        K false σ165)) ∧
    (((x8 &&& 63) : Int32) = 28 →
      gScr σ v0 (v4 + 1) fun x167 =>
      gScr σ v0 (v4 + 2) fun x168 =>
      gScr σ v0 (v4 + 3) fun x169 =>
      gScr σ v0 (v4 + 4) fun x170 =>
      C_X11_rows l G d v1 x167 x168 x169 x170 σ fun r172 σ171 =>
      gScr σ171 v0 (v4 + 1) fun x173 =>
      gScr σ171 v0 (v4 + 2) fun x174 =>
      gScr σ171 v0 (v4 + 3) fun x175 =>
      gScr σ171 v0 (v4 + 4) fun x176 =>
      C_X12_rows l G d v2 x173 x174 x175 x176 σ171 fun r178 σ177 =>
      ((r172 : Int32) = (r178 : Int32) →
        F_L_law_1385 l G d X23 v0 v1 v2 v3 v4 σ177 bc bs K) ∧
      (¬ (r172 : Int32) = (r178 : Int32) →
        K false σ177)) ∧
    (((x8 &&& 63) : Int32) = 29 →
      gScr σ v0 (v4 + 1) fun x179 =>
      gScr σ v0 (v4 + 2) fun x180 =>
      gScr σ v0 (v4 + 3) fun x181 =>
      C_X11_rowLay l G d v1 x179 x180 x181 σ fun r183 σ182 =>
      gScr σ182 v0 (v4 + 1) fun x184 =>
      gScr σ182 v0 (v4 + 2) fun x185 =>
      gScr σ182 v0 (v4 + 3) fun x186 =>
      C_X12_rowLay l G d v2 x184 x185 x186 σ182 fun r188 σ187 =>
      ((r183 : Int32) = (r188 : Int32) →
        F_L_law_1385 l G d X23 v0 v1 v2 v3 v4 σ187 bc bs K) ∧
      (¬ (r183 : Int32) = (r188 : Int32) →
        K false σ187)) ∧
    (((x8 &&& 63) : Int32) = 30 →
      gScr σ v0 (v4 + 1) fun x189 =>
      gScr σ v0 (v4 + 2) fun x190 =>
      ((x190 : Int32) = 0 →
        F_L_law_996 l G d X23 v0 v1 v2 v3 v4 v1 x189 false σ bc bs K) ∧
      (¬ (x190 : Int32) = 0 →
        F_L_law_996 l G d X23 v0 v1 v2 v3 v4 v1 x189 true σ bc bs K)) ∧
    (((x8 &&& 63) : Int32) = 31 →
      gScr σ v0 (v4 + 1) fun x191 =>
      C_X11_would l G d v1 x191 σ fun r193 σ192 =>
      gScr σ192 v0 (v4 + 1) fun x194 =>
      C_X12_would l G d v2 x194 σ192 fun r196 σ195 =>
      ((r193 : Int32) = (r196 : Int32) →
        F_L_law_1385 l G d X23 v0 v1 v2 v3 v4 σ195 bc bs K) ∧
      (¬ (r193 : Int32) = (r196 : Int32) →
        K false σ195)) ∧
    (((x8 &&& 63) : Int32) = 32 →
      gScr σ v0 (v4 + 1) fun x197 =>
      gScr σ v0 (v4 + 2) fun x198 =>
      C_X11_match l G d v1 x197 x198 σ fun r200 σ199 =>
      gScr σ199 v0 (v4 + 1) fun x201 =>
      gScr σ199 v0 (v4 + 2) fun x202 =>
      C_X12_match l G d v2 x201 x202 σ199 fun r204 σ203 =>
      ((r200 : Int32) = (r204 : Int32) →
        F_L_law_1385 l G d X23 v0 v1 v2 v3 v4 σ203 bc bs K) ∧
      (¬ (r200 : Int32) = (r204 : Int32) →
        K false σ203)) ∧
    (((x8 &&& 63) : Int32) = 33 →
      gScr σ v0 (v4 + 1) fun x205 =>
      gScr σ v0 (v4 + 2) fun x206 =>
      C_X11_matchLong l G d v1 x205 x206 σ fun r208 σ207 =>
      gScr σ207 v0 (v4 + 1) fun x209 =>
      gScr σ207 v0 (v4 + 2) fun x210 =>
      C_X12_matchLong l G d v2 x209 x210 σ207 fun r212 σ211 =>
      ((r208 : Int32) = (r212 : Int32) →
        F_L_law_1385 l G d X23 v0 v1 v2 v3 v4 σ211 bc bs K) ∧
      (¬ (r208 : Int32) = (r212 : Int32) →
        K false σ211)) ∧
    (((x8 &&& 63) : Int32) = 34 →
      gScr σ v0 (v4 + 1) fun x213 =>
      C_X11_beats l G d v1 x213 σ fun r215 σ214 =>
      gScr σ214 v0 (v4 + 1) fun x216 =>
      C_X12_beats l G d v2 x216 σ214 fun r218 σ217 =>
      ((r215 : Int32) = (r218 : Int32) →
        F_L_law_1385 l G d X23 v0 v1 v2 v3 v4 σ217 bc bs K) ∧
      (¬ (r215 : Int32) = (r218 : Int32) →
        K false σ217)) ∧
    (((x8 &&& 63) : Int32) = 35 →
      gScr σ v0 (v4 + 1) fun x219 =>
      C_X11_puts l G d v1 x219 σ fun r221 σ220 =>
      gScr σ220 v0 (v4 + 1) fun x222 =>
      C_X12_puts l G d v2 x222 σ220 fun r224 σ223 =>
      (((bi r221) : Int32) = ((bi r224) : Int32) →
        F_L_law_1385 l G d X23 v0 v1 v2 v3 v4 σ223 bc bs K) ∧
      (¬ ((bi r221) : Int32) = ((bi r224) : Int32) →
        K false σ223)) ∧
    (((x8 &&& 63) : Int32) = 36 →
      C_X11_takes l G d v1 σ fun r226 σ225 =>
      C_X12_takes l G d v2 σ225 fun r228 σ227 =>
      ((r226 : Int32) = (r228 : Int32) →
        F_L_law_1385 l G d X23 v0 v1 v2 v3 v4 σ227 bc bs K) ∧
      (¬ (r226 : Int32) = (r228 : Int32) →
        K false σ227)) ∧
    (((x8 &&& 63) : Int32) = 37 →
      gScr σ v0 (v4 + 1) fun x229 =>
      C_X11_plays l G d v1 x229 σ fun r231 σ230 =>
      gScr σ230 v0 (v4 + 1) fun x232 =>
      C_X12_plays l G d v2 x232 σ230 fun r234 σ233 =>
      ((r231 : Int32) = (r234 : Int32) →
        F_L_law_1385 l G d X23 v0 v1 v2 v3 v4 σ233 bc bs K) ∧
      (¬ (r231 : Int32) = (r234 : Int32) →
        K false σ233)) ∧
    (((x8 &&& 63) : Int32) = 38 →
      gScr σ v0 (v4 + 1) fun x235 =>
      C_X11_seed l G d v1 x235 σ fun r237 σ236 =>
      gScr σ236 v0 (v4 + 1) fun x238 =>
      C_X12_seed l G d v2 x238 σ236 fun r240 σ239 =>
      (((bi r237) : Int32) = ((bi r240) : Int32) →
        F_L_law_1385 l G d X23 v0 v1 v2 v3 v4 σ239 bc bs K) ∧
      (¬ ((bi r237) : Int32) = ((bi r240) : Int32) →
        K false σ239)) ∧
    (((x8 &&& 63) : Int32) = 39 →
      C_X11_undo l G d v1 σ fun r242 σ241 =>
      C_X12_undo l G d v2 σ241 fun r244 σ243 =>
      (((bi r242) : Int32) = ((bi r244) : Int32) →
        F_L_law_1385 l G d X23 v0 v1 v2 v3 v4 σ243 bc bs K) ∧
      (¬ ((bi r242) : Int32) = ((bi r244) : Int32) →
        K false σ243)) ∧
    (((x8 &&& 63) : Int32) = 40 →
      C_X11_image l G d v1 σ fun r246 σ245 =>
      C_X12_image l G d v2 σ245 fun r248 σ247 =>
      ((r246 : Int32) = (r248 : Int32) →
        F_L_law_1385 l G d X23 v0 v1 v2 v3 v4 σ247 bc bs K) ∧
      (¬ (r246 : Int32) = (r248 : Int32) →
        K false σ247)) ∧
    (((x8 &&& 63) : Int32) = 41 →
      gScr σ v0 (v4 + 1) fun x249 =>
      C_X11_back l G d v1 x249 σ fun r251 σ250 =>
      gScr σ250 v0 (v4 + 1) fun x252 =>
      C_X12_back l G d v2 x252 σ250 fun r254 σ253 =>
      (((bi r251) : Int32) = ((bi r254) : Int32) →
        F_L_law_1385 l G d X23 v0 v1 v2 v3 v4 σ253 bc bs K) ∧
      (¬ ((bi r251) : Int32) = ((bi r254) : Int32) →
        K false σ253)) ∧
    (((x8 &&& 63) : Int32) = 42 →
      gScr σ v0 (v4 + 1) fun x255 =>
      6 ≤ bs ∧ 1 ≤ bc ∧ C_L_led l G d v1 x255 v3 σ fun r259 σ258 =>
      gScr σ258 v0 (v4 + 1) fun x260 =>
      C_X12_led l G d v2 x260 σ258 fun r262 σ261 =>
      C_X12_thrown l G d v2 σ261 fun r264 σ263 =>
      ((r264 : Int32) = (r259 : Int32) →
        (¬ (r259 : Int32) = 0 →
          F_L_law_1344 l G d X23 v0 v1 v2 v3 v4 σ263 (bc - 1) (bs - 6) K) ∧
        ((r259 : Int32) = 0 →
          gJ σ263 v3 0 fun x265 =>
          (((lg_cmp x265 ((r262 : Int32).toInt64)) : Int32) = 0 →
            F_L_law_1344 l G d X23 v0 v1 v2 v3 v4 σ263 (bc - 1) (bs - 6) K) ∧
          (¬ ((lg_cmp x265 ((r262 : Int32).toInt64)) : Int32) = 0 →
            K false σ263))) ∧
      (¬ (r264 : Int32) = (r259 : Int32) →
        K false σ263)) ∧
    (((x8 &&& 63) : Int32) = 43 →
      gScr σ v0 (v4 + 1) fun x266 =>
      C_X11_told l G d v1 x266 σ fun r268 σ267 =>
      gScr σ267 v0 (v4 + 1) fun x269 =>
      C_X12_told l G d v2 x269 σ267 fun r271 σ270 =>
      ((r268 : Int32) = (r271 : Int32) →
        F_L_law_1385 l G d X23 v0 v1 v2 v3 v4 σ270 bc bs K) ∧
      (¬ (r268 : Int32) = (r271 : Int32) →
        K false σ270)) ∧
    (((x8 &&& 63) : Int32) = 44 →
      C_X11_trouble l G d v1 σ fun r273 σ272 =>
      C_X12_trouble l G d v2 σ272 fun r275 σ274 =>
      ((r273 : Int32) = (r275 : Int32) →
        F_L_law_1385 l G d X23 v0 v1 v2 v3 v4 σ274 bc bs K) ∧
      (¬ (r273 : Int32) = (r275 : Int32) →
        K false σ274)) ∧
    (¬ ((x8 &&& 63) : Int32) = 0 → ¬ ((x8 &&& 63) : Int32) = 1 → ¬ ((x8 &&& 63) : Int32) = 2 → ¬ ((x8 &&& 63) : Int32) = 3 → ¬ ((x8 &&& 63) : Int32) = 4 → ¬ ((x8 &&& 63) : Int32) = 5 → ¬ ((x8 &&& 63) : Int32) = 6 → ¬ ((x8 &&& 63) : Int32) = 7 → ¬ ((x8 &&& 63) : Int32) = 8 → ¬ ((x8 &&& 63) : Int32) = 9 → ¬ ((x8 &&& 63) : Int32) = 10 → ¬ ((x8 &&& 63) : Int32) = 11 → ¬ ((x8 &&& 63) : Int32) = 12 → ¬ ((x8 &&& 63) : Int32) = 13 → ¬ ((x8 &&& 63) : Int32) = 14 → ¬ ((x8 &&& 63) : Int32) = 15 → ¬ ((x8 &&& 63) : Int32) = 16 → ¬ ((x8 &&& 63) : Int32) = 17 → ¬ ((x8 &&& 63) : Int32) = 18 → ¬ ((x8 &&& 63) : Int32) = 19 → ¬ ((x8 &&& 63) : Int32) = 20 → ¬ ((x8 &&& 63) : Int32) = 21 → ¬ ((x8 &&& 63) : Int32) = 22 → ¬ ((x8 &&& 63) : Int32) = 23 → ¬ ((x8 &&& 63) : Int32) = 24 → ¬ ((x8 &&& 63) : Int32) = 25 → ¬ ((x8 &&& 63) : Int32) = 26 → ¬ ((x8 &&& 63) : Int32) = 27 → ¬ ((x8 &&& 63) : Int32) = 28 → ¬ ((x8 &&& 63) : Int32) = 29 → ¬ ((x8 &&& 63) : Int32) = 30 → ¬ ((x8 &&& 63) : Int32) = 31 → ¬ ((x8 &&& 63) : Int32) = 32 → ¬ ((x8 &&& 63) : Int32) = 33 → ¬ ((x8 &&& 63) : Int32) = 34 → ¬ ((x8 &&& 63) : Int32) = 35 → ¬ ((x8 &&& 63) : Int32) = 36 → ¬ ((x8 &&& 63) : Int32) = 37 → ¬ ((x8 &&& 63) : Int32) = 38 → ¬ ((x8 &&& 63) : Int32) = 39 → ¬ ((x8 &&& 63) : Int32) = 40 → ¬ ((x8 &&& 63) : Int32) = 41 → ¬ ((x8 &&& 63) : Int32) = 42 → ¬ ((x8 &&& 63) : Int32) = 43 → ¬ ((x8 &&& 63) : Int32) = 44 →
      F_L_law_1385 l G d X23 v0 v1 v2 v3 v4 σ bc bs K))
set_option maxRecDepth 100000 in
set_option maxHeartbeats 4000000 in
theorem b_L_law_23 {l : Launch} {G : GG} {d : Nat} {X23 : Nat → Nat → Nat → Nat → Int32 → Hp → Nat → Nat → Prop} {v0 : Nat} {v1 : Nat} {v2 : Nat} {v3 : Nat} {v4 : Int32} {σ : Hp} {bc bs : Nat} {K : Bool → Hp → Prop} (hX23 : ∀ v0 v1 v2 v3 v4 σ bc bs, X23 v0 v1 v2 v3 v4 σ bc bs → Wd l G (d + 1) "CoinsLaidLaw" yL_law cL_law 7 (some .boolean) 23 [(0, aR (some v0)), (1, aR (some v1)), (2, aR (some v2)), (3, aR (some v3)), (4, aI v4)] [] σ bc bs (xL K)) (hf : F_L_law_23 l G d X23 v0 v1 v2 v3 v4 σ bc bs K) : Wd l G (d + 1) "CoinsLaidLaw" yL_law cL_law 7 (some .boolean) 23 [(0, aR (some v0)), (1, aR (some v1)), (2, aR (some v2)), (3, aR (some v3)), (4, aI v4)] [] σ bc bs (xL K) := by
  unfold F_L_law_23 at hf
  refine r_iload (j := 4) rfl dL_law_23 ?_
  refine r_aload_n (j := 0) rfl rfl dL_law_25 ?_
  obtain ⟨t_x7, N_x7, f_x7, ha_x7, hf⟩ := hf
  refine r_alen ha_x7 dL_law_26 ?_
  generalize nI N_x7 = x7 at hf ⊢
  refine r_bipush (v := 6) (by decide) dL_law_27 ?_
  refine r_isub (x := x7) (y := 6) dL_law_29 ?_
  refine r_icmpgt (x := v4) (y := (x7 - 6)) (tgt := 1391) (by decide) dL_law_30 (fun hc => ?_) (fun hc => ?_)
  · replace hf := hf.1 hc
    refine r_iconst (v := 1) (by decide) dL_law_1391 ?_
    exact r_lawret (b := true) dL_law_1392 hf
  · replace hf := hf.2 hc
    refine r_aload_n (j := 0) rfl rfl dL_law_33 ?_
    refine r_iload (j := 4) rfl dL_law_34 ?_
    obtain ⟨N_x8, f_x8, ha_x8, hi_x8, hf⟩ := hf
    refine r_sald ha_x8 hi_x8 dL_law_36 ?_
    generalize f_x8 (v4 : Int32).toNatClampNeg = x8 at hf ⊢
    refine r_bipush (v := 63) (by decide) dL_law_37 ?_
    refine r_iand (x := x8) (y := 63) dL_law_39 ?_
    by_cases hc0 : ((x8 &&& 63) : Int32) = 0
    · replace hf := hf.1 hc0
      refine r_tabIn (tgt := 236) (off := 196) (by rw [hc0]; decide) (by rw [hc0]; decide) (by rw [hc0]; decide) (by decide) dL_law_40 ?_
      refine r_aload_n (j := 1) rfl rfl dL_law_236 ?_
      refine r_aload_n (j := 0) rfl rfl dL_law_237 ?_
      refine r_iload (j := 4) rfl dL_law_238 ?_
      refine r_iconst (v := 1) (by decide) dL_law_240 ?_
      refine r_iadd (x := v4) (y := 1) dL_law_241 ?_
      obtain ⟨N_x9, f_x9, ha_x9, hi_x9, hf⟩ := hf
      refine r_sald ha_x9 hi_x9 dL_law_242 ?_
      generalize f_x9 ((v4 + 1) : Int32).toNatClampNeg = x9 at hf ⊢
      refine r_aload_n (j := 0) rfl rfl dL_law_243 ?_
      refine r_iload (j := 4) rfl dL_law_244 ?_
      refine r_iconst (v := 2) (by decide) dL_law_246 ?_
      refine r_iadd (x := v4) (y := 2) dL_law_247 ?_
      obtain ⟨N_x10, f_x10, ha_x10, hi_x10, hf⟩ := hf
      refine r_sald ha_x10 hi_x10 dL_law_248 ?_
      generalize f_x10 ((v4 + 2) : Int32).toNatClampNeg = x10 at hf ⊢
      refine r_aload_n (j := 0) rfl rfl dL_law_249 ?_
      refine r_iload (j := 4) rfl dL_law_250 ?_
      refine r_iconst (v := 3) (by decide) dL_law_252 ?_
      refine r_iadd (x := v4) (y := 3) dL_law_253 ?_
      obtain ⟨N_x11, f_x11, ha_x11, hi_x11, hf⟩ := hf
      refine r_sald ha_x11 hi_x11 dL_law_254 ?_
      generalize f_x11 ((v4 + 3) : Int32).toNatClampNeg = x11 at hf ⊢
      refine r_aload_n (j := 0) rfl rfl dL_law_255 ?_
      refine r_iload (j := 4) rfl dL_law_256 ?_
      refine r_iconst (v := 4) (by decide) dL_law_258 ?_
      refine r_iadd (x := v4) (y := 4) dL_law_259 ?_
      obtain ⟨N_x12, f_x12, ha_x12, hi_x12, hf⟩ := hf
      refine r_sald ha_x12 hi_x12 dL_law_260 ?_
      generalize f_x12 ((v4 + 4) : Int32).toNatClampNeg = x12 at hf ⊢
      refine r_aload_n (j := 0) rfl rfl dL_law_261 ?_
      refine r_iload (j := 4) rfl dL_law_262 ?_
      refine r_iconst (v := 5) (by decide) dL_law_264 ?_
      refine r_iadd (x := v4) (y := 5) dL_law_265 ?_
      obtain ⟨N_x13, f_x13, ha_x13, hi_x13, hf⟩ := hf
      refine r_sald ha_x13 hi_x13 dL_law_266 ?_
      generalize f_x13 ((v4 + 5) : Int32).toNatClampNeg = x13 at hf ⊢
      try unfold C_X11_feed at hf
      obtain ⟨⟨fs_r15, ha_r15⟩, hf⟩ := hf
      refine r_invVI (t := 11) (As := [aI x9, aI x10, aI x11, aI x12, aI x13]) (dz := d) (mz := 0) (sz := 0) rfl wd_1_210 wd_1_211 wd_1_212 cf_X11_feed (Nat.le_refl _) (Nat.zero_le _) (Nat.zero_le _) (cat_ok (Nat.le_of_ble_eq_true rfl)) rfl rfl ha_r15 dL_law_267 hf (fun r15 σ14 hk => ?_)
      replace hf := hk
      clear hk
      refine r_aload_n (j := 2) rfl rfl dL_law_270 ?_
      refine r_aload_n (j := 0) rfl rfl dL_law_271 ?_
      refine r_iload (j := 4) rfl dL_law_272 ?_
      refine r_iconst (v := 1) (by decide) dL_law_274 ?_
      refine r_iadd (x := v4) (y := 1) dL_law_275 ?_
      obtain ⟨N_x16, f_x16, ha_x16, hi_x16, hf⟩ := hf
      refine r_sald ha_x16 hi_x16 dL_law_276 ?_
      generalize f_x16 ((v4 + 1) : Int32).toNatClampNeg = x16 at hf ⊢
      refine r_aload_n (j := 0) rfl rfl dL_law_277 ?_
      refine r_iload (j := 4) rfl dL_law_278 ?_
      refine r_iconst (v := 2) (by decide) dL_law_280 ?_
      refine r_iadd (x := v4) (y := 2) dL_law_281 ?_
      obtain ⟨N_x17, f_x17, ha_x17, hi_x17, hf⟩ := hf
      refine r_sald ha_x17 hi_x17 dL_law_282 ?_
      generalize f_x17 ((v4 + 2) : Int32).toNatClampNeg = x17 at hf ⊢
      refine r_aload_n (j := 0) rfl rfl dL_law_283 ?_
      refine r_iload (j := 4) rfl dL_law_284 ?_
      refine r_iconst (v := 3) (by decide) dL_law_286 ?_
      refine r_iadd (x := v4) (y := 3) dL_law_287 ?_
      obtain ⟨N_x18, f_x18, ha_x18, hi_x18, hf⟩ := hf
      refine r_sald ha_x18 hi_x18 dL_law_288 ?_
      generalize f_x18 ((v4 + 3) : Int32).toNatClampNeg = x18 at hf ⊢
      refine r_aload_n (j := 0) rfl rfl dL_law_289 ?_
      refine r_iload (j := 4) rfl dL_law_290 ?_
      refine r_iconst (v := 4) (by decide) dL_law_292 ?_
      refine r_iadd (x := v4) (y := 4) dL_law_293 ?_
      obtain ⟨N_x19, f_x19, ha_x19, hi_x19, hf⟩ := hf
      refine r_sald ha_x19 hi_x19 dL_law_294 ?_
      generalize f_x19 ((v4 + 4) : Int32).toNatClampNeg = x19 at hf ⊢
      refine r_aload_n (j := 0) rfl rfl dL_law_295 ?_
      refine r_iload (j := 4) rfl dL_law_296 ?_
      refine r_iconst (v := 5) (by decide) dL_law_298 ?_
      refine r_iadd (x := v4) (y := 5) dL_law_299 ?_
      obtain ⟨N_x20, f_x20, ha_x20, hi_x20, hf⟩ := hf
      refine r_sald ha_x20 hi_x20 dL_law_300 ?_
      generalize f_x20 ((v4 + 5) : Int32).toNatClampNeg = x20 at hf ⊢
      try unfold C_X12_feed at hf
      obtain ⟨⟨fs_r22, ha_r22⟩, hf⟩ := hf
      refine r_invVI (t := 12) (As := [aI x16, aI x17, aI x18, aI x19, aI x20]) (dz := d) (mz := 0) (sz := 0) rfl wd_7_77 wd_7_78 wd_7_79 cf_X12_feed (Nat.le_refl _) (Nat.zero_le _) (Nat.zero_le _) (cat_ok (Nat.le_of_ble_eq_true rfl)) rfl rfl ha_r22 dL_law_301 hf (fun r22 σ21 hk => ?_)
      replace hf := hk
      clear hk
      refine r_icmpeq (x := r15) (y := r22) (tgt := 1385) (by decide) dL_law_304 (fun hc => ?_) (fun hc => ?_)
      · replace hf := hf.1 hc
        exact r_sub [0, 1, 2, 3, 4] rfl (b_L_law_1385 hX23 hf)
      · replace hf := hf.2 hc
        refine r_iconst (v := 0) (by decide) dL_law_307 ?_
        exact r_lawret (b := false) dL_law_308 hf
    by_cases hc1 : ((x8 &&& 63) : Int32) = 1
    · replace hf := hf.2.1 hc1
      refine r_tabIn (tgt := 309) (off := 269) (by rw [hc1]; decide) (by rw [hc1]; decide) (by rw [hc1]; decide) (by decide) dL_law_40 ?_
      refine r_aload_n (j := 1) rfl rfl dL_law_309 ?_
      refine r_aload_n (j := 0) rfl rfl dL_law_310 ?_
      refine r_iload (j := 4) rfl dL_law_311 ?_
      refine r_iconst (v := 1) (by decide) dL_law_313 ?_
      refine r_iadd (x := v4) (y := 1) dL_law_314 ?_
      obtain ⟨N_x23, f_x23, ha_x23, hi_x23, hf⟩ := hf
      refine r_sald ha_x23 hi_x23 dL_law_315 ?_
      generalize f_x23 ((v4 + 1) : Int32).toNatClampNeg = x23 at hf ⊢
      obtain ⟨mz26, sz27, hbc, hbs, hf⟩ := hf
      try unfold C_X11_table at hf
      obtain ⟨⟨fs_r25, ha_r25⟩, hf⟩ := hf
      refine r_invVI (t := 11) (As := [aI x23]) (dz := d) (mz := mz26) (sz := sz27) rfl wd_1_218 wd_1_219 wd_1_220 cf_X11_table (Nat.le_refl _) hbc hbs (cat_ok (Nat.le_of_ble_eq_true rfl)) rfl rfl ha_r25 dL_law_316 hf (fun r25 σ24 hk => ?_)
      replace hf := hk
      clear hk
      refine r_aload_n (j := 2) rfl rfl dL_law_319 ?_
      refine r_aload_n (j := 0) rfl rfl dL_law_320 ?_
      refine r_iload (j := 4) rfl dL_law_321 ?_
      refine r_iconst (v := 1) (by decide) dL_law_323 ?_
      refine r_iadd (x := v4) (y := 1) dL_law_324 ?_
      obtain ⟨N_x28, f_x28, ha_x28, hi_x28, hf⟩ := hf
      refine r_sald ha_x28 hi_x28 dL_law_325 ?_
      generalize f_x28 ((v4 + 1) : Int32).toNatClampNeg = x28 at hf ⊢
      try unfold C_X12_table at hf
      obtain ⟨⟨fs_r30, ha_r30⟩, hf⟩ := hf
      refine r_invVI (t := 12) (As := [aI x28]) (dz := d) (mz := 0) (sz := 0) rfl wd_7_81 wd_7_82 wd_7_83 cf_X12_table (Nat.le_refl _) (Nat.zero_le _) (Nat.zero_le _) (cat_ok (Nat.le_of_ble_eq_true rfl)) rfl rfl ha_r30 dL_law_326 hf (fun r30 σ29 hk => ?_)
      replace hf := hk
      clear hk
      refine r_icmpeq (x := r25) (y := r30) (tgt := 1385) (by decide) dL_law_329 (fun hc => ?_) (fun hc => ?_)
      · replace hf := hf.1 hc
        exact r_sub [0, 1, 2, 3, 4] rfl (b_L_law_1385 hX23 hf)
      · replace hf := hf.2 hc
        refine r_iconst (v := 0) (by decide) dL_law_332 ?_
        exact r_lawret (b := false) dL_law_333 hf
    by_cases hc2 : ((x8 &&& 63) : Int32) = 2
    · replace hf := hf.2.2.1 hc2
      refine r_tabIn (tgt := 334) (off := 294) (by rw [hc2]; decide) (by rw [hc2]; decide) (by rw [hc2]; decide) (by decide) dL_law_40 ?_
      refine r_aload_n (j := 1) rfl rfl dL_law_334 ?_
      try unfold C_X11_fault at hf
      obtain ⟨⟨fs_r32, ha_r32⟩, hf⟩ := hf
      refine r_invVI (t := 11) (As := []) (dz := d) (mz := 0) (sz := 0) rfl wd_4_122 wd_4_123 wd_4_124 cf_X11_fault (Nat.le_refl _) (Nat.zero_le _) (Nat.zero_le _) (cat_ok (Nat.le_of_ble_eq_true rfl)) rfl rfl ha_r32 dL_law_335 hf (fun r32 σ31 hk => ?_)
      replace hf := hk
      clear hk
      refine r_aload_n (j := 2) rfl rfl dL_law_338 ?_
      try unfold C_X12_fault at hf
      obtain ⟨⟨fs_r34, ha_r34⟩, hf⟩ := hf
      refine r_invVI (t := 12) (As := []) (dz := d) (mz := 0) (sz := 0) rfl wd_7_238 wd_7_239 wd_8_0 cf_X12_fault (Nat.le_refl _) (Nat.zero_le _) (Nat.zero_le _) (cat_ok (Nat.le_of_ble_eq_true rfl)) rfl rfl ha_r34 dL_law_339 hf (fun r34 σ33 hk => ?_)
      replace hf := hk
      clear hk
      refine r_icmpeq (x := r32) (y := r34) (tgt := 1385) (by decide) dL_law_342 (fun hc => ?_) (fun hc => ?_)
      · replace hf := hf.1 hc
        exact r_sub [0, 1, 2, 3, 4] rfl (b_L_law_1385 hX23 hf)
      · replace hf := hf.2 hc
        refine r_iconst (v := 0) (by decide) dL_law_345 ?_
        exact r_lawret (b := false) dL_law_346 hf
    by_cases hc3 : ((x8 &&& 63) : Int32) = 3
    · replace hf := hf.2.2.2.1 hc3
      refine r_tabIn (tgt := 347) (off := 307) (by rw [hc3]; decide) (by rw [hc3]; decide) (by rw [hc3]; decide) (by decide) dL_law_40 ?_
      refine r_aload_n (j := 1) rfl rfl dL_law_347 ?_
      try unfold C_X11_where at hf
      obtain ⟨⟨fs_r36, ha_r36⟩, hf⟩ := hf
      refine r_invVI (t := 11) (As := []) (dz := d) (mz := 0) (sz := 0) rfl wd_4_126 wd_4_127 wd_4_128 cf_X11_where (Nat.le_refl _) (Nat.zero_le _) (Nat.zero_le _) (cat_ok (Nat.le_of_ble_eq_true rfl)) rfl rfl ha_r36 dL_law_348 hf (fun r36 σ35 hk => ?_)
      replace hf := hk
      clear hk
      refine r_aload_n (j := 2) rfl rfl dL_law_351 ?_
      try unfold C_X12_where at hf
      obtain ⟨⟨fs_r38, ha_r38⟩, hf⟩ := hf
      refine r_invVI (t := 12) (As := []) (dz := d) (mz := 0) (sz := 0) rfl wd_8_2 wd_8_3 wd_8_4 cf_X12_where (Nat.le_refl _) (Nat.zero_le _) (Nat.zero_le _) (cat_ok (Nat.le_of_ble_eq_true rfl)) rfl rfl ha_r38 dL_law_352 hf (fun r38 σ37 hk => ?_)
      replace hf := hk
      clear hk
      refine r_icmpeq (x := r36) (y := r38) (tgt := 1385) (by decide) dL_law_355 (fun hc => ?_) (fun hc => ?_)
      · replace hf := hf.1 hc
        exact r_sub [0, 1, 2, 3, 4] rfl (b_L_law_1385 hX23 hf)
      · replace hf := hf.2 hc
        refine r_iconst (v := 0) (by decide) dL_law_358 ?_
        exact r_lawret (b := false) dL_law_359 hf
    by_cases hc4 : ((x8 &&& 63) : Int32) = 4
    · replace hf := hf.2.2.2.2.1 hc4
      refine r_tabIn (tgt := 360) (off := 320) (by rw [hc4]; decide) (by rw [hc4]; decide) (by rw [hc4]; decide) (by decide) dL_law_40 ?_
      refine r_aload_n (j := 1) rfl rfl dL_law_360 ?_
      refine r_aload_n (j := 0) rfl rfl dL_law_361 ?_
      refine r_iload (j := 4) rfl dL_law_362 ?_
      refine r_iconst (v := 1) (by decide) dL_law_364 ?_
      refine r_iadd (x := v4) (y := 1) dL_law_365 ?_
      obtain ⟨N_x39, f_x39, ha_x39, hi_x39, hf⟩ := hf
      refine r_sald ha_x39 hi_x39 dL_law_366 ?_
      generalize f_x39 ((v4 + 1) : Int32).toNatClampNeg = x39 at hf ⊢
      refine r_aload_n (j := 0) rfl rfl dL_law_367 ?_
      refine r_iload (j := 4) rfl dL_law_368 ?_
      refine r_iconst (v := 2) (by decide) dL_law_370 ?_
      refine r_iadd (x := v4) (y := 2) dL_law_371 ?_
      obtain ⟨N_x40, f_x40, ha_x40, hi_x40, hf⟩ := hf
      refine r_sald ha_x40 hi_x40 dL_law_372 ?_
      generalize f_x40 ((v4 + 2) : Int32).toNatClampNeg = x40 at hf ⊢
      try unfold C_X11_lay at hf
      obtain ⟨⟨fs_r42, ha_r42⟩, hf⟩ := hf
      refine r_invVI (t := 11) (As := [aI x39, aI x40]) (dz := d) (mz := 0) (sz := 0) rfl wd_4_130 wd_4_131 wd_4_132 cf_X11_lay (Nat.le_refl _) (Nat.zero_le _) (Nat.zero_le _) (cat_ok (Nat.le_of_ble_eq_true rfl)) rfl rfl ha_r42 dL_law_373 hf (fun r42 σ41 hk => ?_)
      replace hf := hk
      clear hk
      refine r_aload_n (j := 2) rfl rfl dL_law_376 ?_
      refine r_aload_n (j := 0) rfl rfl dL_law_377 ?_
      refine r_iload (j := 4) rfl dL_law_378 ?_
      refine r_iconst (v := 1) (by decide) dL_law_380 ?_
      refine r_iadd (x := v4) (y := 1) dL_law_381 ?_
      obtain ⟨N_x43, f_x43, ha_x43, hi_x43, hf⟩ := hf
      refine r_sald ha_x43 hi_x43 dL_law_382 ?_
      generalize f_x43 ((v4 + 1) : Int32).toNatClampNeg = x43 at hf ⊢
      refine r_aload_n (j := 0) rfl rfl dL_law_383 ?_
      refine r_iload (j := 4) rfl dL_law_384 ?_
      refine r_iconst (v := 2) (by decide) dL_law_386 ?_
      refine r_iadd (x := v4) (y := 2) dL_law_387 ?_
      obtain ⟨N_x44, f_x44, ha_x44, hi_x44, hf⟩ := hf
      refine r_sald ha_x44 hi_x44 dL_law_388 ?_
      generalize f_x44 ((v4 + 2) : Int32).toNatClampNeg = x44 at hf ⊢
      try unfold C_X12_lay at hf
      obtain ⟨⟨fs_r46, ha_r46⟩, hf⟩ := hf
      refine r_invVI (t := 12) (As := [aI x43, aI x44]) (dz := d) (mz := 0) (sz := 0) rfl wd_8_6 wd_8_7 wd_8_8 cf_X12_lay (Nat.le_refl _) (Nat.zero_le _) (Nat.zero_le _) (cat_ok (Nat.le_of_ble_eq_true rfl)) rfl rfl ha_r46 dL_law_389 hf (fun r46 σ45 hk => ?_)
      replace hf := hk
      clear hk
      refine r_icmpeq (x := r42) (y := r46) (tgt := 1385) (by decide) dL_law_392 (fun hc => ?_) (fun hc => ?_)
      · replace hf := hf.1 hc
        exact r_sub [0, 1, 2, 3, 4] rfl (b_L_law_1385 hX23 hf)
      · replace hf := hf.2 hc
        refine r_iconst (v := 0) (by decide) dL_law_395 ?_
        exact r_lawret (b := false) dL_law_396 hf
    by_cases hc5 : ((x8 &&& 63) : Int32) = 5
    · replace hf := hf.2.2.2.2.2.1 hc5
      refine r_tabIn (tgt := 397) (off := 357) (by rw [hc5]; decide) (by rw [hc5]; decide) (by rw [hc5]; decide) (by decide) dL_law_40 ?_
      refine r_aload_n (j := 1) rfl rfl dL_law_397 ?_
      refine r_aload_n (j := 0) rfl rfl dL_law_398 ?_
      refine r_iload (j := 4) rfl dL_law_399 ?_
      refine r_iconst (v := 1) (by decide) dL_law_401 ?_
      refine r_iadd (x := v4) (y := 1) dL_law_402 ?_
      obtain ⟨N_x47, f_x47, ha_x47, hi_x47, hf⟩ := hf
      refine r_sald ha_x47 hi_x47 dL_law_403 ?_
      generalize f_x47 ((v4 + 1) : Int32).toNatClampNeg = x47 at hf ⊢
      refine r_aload_n (j := 0) rfl rfl dL_law_404 ?_
      refine r_iload (j := 4) rfl dL_law_405 ?_
      refine r_iconst (v := 2) (by decide) dL_law_407 ?_
      refine r_iadd (x := v4) (y := 2) dL_law_408 ?_
      obtain ⟨N_x48, f_x48, ha_x48, hi_x48, hf⟩ := hf
      refine r_sald ha_x48 hi_x48 dL_law_409 ?_
      generalize f_x48 ((v4 + 2) : Int32).toNatClampNeg = x48 at hf ⊢
      refine r_aload_n (j := 0) rfl rfl dL_law_410 ?_
      refine r_iload (j := 4) rfl dL_law_411 ?_
      refine r_iconst (v := 3) (by decide) dL_law_413 ?_
      refine r_iadd (x := v4) (y := 3) dL_law_414 ?_
      obtain ⟨N_x49, f_x49, ha_x49, hi_x49, hf⟩ := hf
      refine r_sald ha_x49 hi_x49 dL_law_415 ?_
      generalize f_x49 ((v4 + 3) : Int32).toNatClampNeg = x49 at hf ⊢
      refine r_aload_n (j := 0) rfl rfl dL_law_416 ?_
      refine r_iload (j := 4) rfl dL_law_417 ?_
      refine r_iconst (v := 4) (by decide) dL_law_419 ?_
      refine r_iadd (x := v4) (y := 4) dL_law_420 ?_
      obtain ⟨N_x50, f_x50, ha_x50, hi_x50, hf⟩ := hf
      refine r_sald ha_x50 hi_x50 dL_law_421 ?_
      generalize f_x50 ((v4 + 4) : Int32).toNatClampNeg = x50 at hf ⊢
      refine r_aload_n (j := 0) rfl rfl dL_law_422 ?_
      refine r_iload (j := 4) rfl dL_law_423 ?_
      refine r_iconst (v := 5) (by decide) dL_law_425 ?_
      refine r_iadd (x := v4) (y := 5) dL_law_426 ?_
      obtain ⟨N_x51, f_x51, ha_x51, hi_x51, hf⟩ := hf
      refine r_sald ha_x51 hi_x51 dL_law_427 ?_
      generalize f_x51 ((v4 + 5) : Int32).toNatClampNeg = x51 at hf ⊢
      try unfold C_X11_layOf at hf
      obtain ⟨⟨fs_r53, ha_r53⟩, hf⟩ := hf
      refine r_invVI (t := 11) (As := [aI x47, aI x48, aI x49, aI x50, aI x51]) (dz := d) (mz := 0) (sz := 0) rfl wd_4_143 wd_4_144 wd_4_145 cf_X11_layOf (Nat.le_refl _) (Nat.zero_le _) (Nat.zero_le _) (cat_ok (Nat.le_of_ble_eq_true rfl)) rfl rfl ha_r53 dL_law_428 hf (fun r53 σ52 hk => ?_)
      replace hf := hk
      clear hk
      refine r_aload_n (j := 2) rfl rfl dL_law_431 ?_
      refine r_aload_n (j := 0) rfl rfl dL_law_432 ?_
      refine r_iload (j := 4) rfl dL_law_433 ?_
      refine r_iconst (v := 1) (by decide) dL_law_435 ?_
      refine r_iadd (x := v4) (y := 1) dL_law_436 ?_
      obtain ⟨N_x54, f_x54, ha_x54, hi_x54, hf⟩ := hf
      refine r_sald ha_x54 hi_x54 dL_law_437 ?_
      generalize f_x54 ((v4 + 1) : Int32).toNatClampNeg = x54 at hf ⊢
      refine r_aload_n (j := 0) rfl rfl dL_law_438 ?_
      refine r_iload (j := 4) rfl dL_law_439 ?_
      refine r_iconst (v := 2) (by decide) dL_law_441 ?_
      refine r_iadd (x := v4) (y := 2) dL_law_442 ?_
      obtain ⟨N_x55, f_x55, ha_x55, hi_x55, hf⟩ := hf
      refine r_sald ha_x55 hi_x55 dL_law_443 ?_
      generalize f_x55 ((v4 + 2) : Int32).toNatClampNeg = x55 at hf ⊢
      refine r_aload_n (j := 0) rfl rfl dL_law_444 ?_
      refine r_iload (j := 4) rfl dL_law_445 ?_
      refine r_iconst (v := 3) (by decide) dL_law_447 ?_
      refine r_iadd (x := v4) (y := 3) dL_law_448 ?_
      obtain ⟨N_x56, f_x56, ha_x56, hi_x56, hf⟩ := hf
      refine r_sald ha_x56 hi_x56 dL_law_449 ?_
      generalize f_x56 ((v4 + 3) : Int32).toNatClampNeg = x56 at hf ⊢
      refine r_aload_n (j := 0) rfl rfl dL_law_450 ?_
      refine r_iload (j := 4) rfl dL_law_451 ?_
      refine r_iconst (v := 4) (by decide) dL_law_453 ?_
      refine r_iadd (x := v4) (y := 4) dL_law_454 ?_
      obtain ⟨N_x57, f_x57, ha_x57, hi_x57, hf⟩ := hf
      refine r_sald ha_x57 hi_x57 dL_law_455 ?_
      generalize f_x57 ((v4 + 4) : Int32).toNatClampNeg = x57 at hf ⊢
      refine r_aload_n (j := 0) rfl rfl dL_law_456 ?_
      refine r_iload (j := 4) rfl dL_law_457 ?_
      refine r_iconst (v := 5) (by decide) dL_law_459 ?_
      refine r_iadd (x := v4) (y := 5) dL_law_460 ?_
      obtain ⟨N_x58, f_x58, ha_x58, hi_x58, hf⟩ := hf
      refine r_sald ha_x58 hi_x58 dL_law_461 ?_
      generalize f_x58 ((v4 + 5) : Int32).toNatClampNeg = x58 at hf ⊢
      try unfold C_X12_layOf at hf
      obtain ⟨⟨fs_r60, ha_r60⟩, hf⟩ := hf
      refine r_invVI (t := 12) (As := [aI x54, aI x55, aI x56, aI x57, aI x58]) (dz := d) (mz := 0) (sz := 0) rfl wd_8_14 wd_8_15 wd_8_16 cf_X12_layOf (Nat.le_refl _) (Nat.zero_le _) (Nat.zero_le _) (cat_ok (Nat.le_of_ble_eq_true rfl)) rfl rfl ha_r60 dL_law_462 hf (fun r60 σ59 hk => ?_)
      replace hf := hk
      clear hk
      refine r_icmpeq (x := r53) (y := r60) (tgt := 1385) (by decide) dL_law_465 (fun hc => ?_) (fun hc => ?_)
      · replace hf := hf.1 hc
        exact r_sub [0, 1, 2, 3, 4] rfl (b_L_law_1385 hX23 hf)
      · replace hf := hf.2 hc
        refine r_iconst (v := 0) (by decide) dL_law_468 ?_
        exact r_lawret (b := false) dL_law_469 hf
    by_cases hc6 : ((x8 &&& 63) : Int32) = 6
    · replace hf := hf.2.2.2.2.2.2.1 hc6
      refine r_tabIn (tgt := 470) (off := 430) (by rw [hc6]; decide) (by rw [hc6]; decide) (by rw [hc6]; decide) (by decide) dL_law_40 ?_
      refine r_aload_n (j := 1) rfl rfl dL_law_470 ?_
      refine r_aload_n (j := 0) rfl rfl dL_law_471 ?_
      refine r_iload (j := 4) rfl dL_law_472 ?_
      refine r_iconst (v := 1) (by decide) dL_law_474 ?_
      refine r_iadd (x := v4) (y := 1) dL_law_475 ?_
      obtain ⟨N_x61, f_x61, ha_x61, hi_x61, hf⟩ := hf
      refine r_sald ha_x61 hi_x61 dL_law_476 ?_
      generalize f_x61 ((v4 + 1) : Int32).toNatClampNeg = x61 at hf ⊢
      try unfold C_X11_may at hf
      obtain ⟨⟨fs_r63, ha_r63⟩, hf⟩ := hf
      refine r_invVI (t := 11) (As := [aI x61]) (dz := d) (mz := 0) (sz := 0) rfl wd_4_166 wd_4_167 wd_4_168 cf_X11_may (Nat.le_refl _) (Nat.zero_le _) (Nat.zero_le _) (cat_ok (Nat.le_of_ble_eq_true rfl)) rfl rfl ha_r63 dL_law_477 hf (fun r63 σ62 hk => ?_)
      replace hf := hk
      clear hk
      refine r_aload_n (j := 2) rfl rfl dL_law_480 ?_
      refine r_aload_n (j := 0) rfl rfl dL_law_481 ?_
      refine r_iload (j := 4) rfl dL_law_482 ?_
      refine r_iconst (v := 1) (by decide) dL_law_484 ?_
      refine r_iadd (x := v4) (y := 1) dL_law_485 ?_
      obtain ⟨N_x64, f_x64, ha_x64, hi_x64, hf⟩ := hf
      refine r_sald ha_x64 hi_x64 dL_law_486 ?_
      generalize f_x64 ((v4 + 1) : Int32).toNatClampNeg = x64 at hf ⊢
      try unfold C_X12_may at hf
      obtain ⟨⟨fs_r66, ha_r66⟩, hf⟩ := hf
      refine r_invVI (t := 12) (As := [aI x64]) (dz := d) (mz := 0) (sz := 0) rfl wd_8_22 wd_8_23 wd_8_24 cf_X12_may (Nat.le_refl _) (Nat.zero_le _) (Nat.zero_le _) (cat_ok (Nat.le_of_ble_eq_true rfl)) rfl rfl ha_r66 dL_law_487 hf (fun r66 σ65 hk => ?_)
      replace hf := hk
      clear hk
      refine r_icmpeq (x := r63) (y := r66) (tgt := 1385) (by decide) dL_law_490 (fun hc => ?_) (fun hc => ?_)
      · replace hf := hf.1 hc
        exact r_sub [0, 1, 2, 3, 4] rfl (b_L_law_1385 hX23 hf)
      · replace hf := hf.2 hc
        refine r_iconst (v := 0) (by decide) dL_law_493 ?_
        exact r_lawret (b := false) dL_law_494 hf
    by_cases hc7 : ((x8 &&& 63) : Int32) = 7
    · replace hf := hf.2.2.2.2.2.2.2.1 hc7
      refine r_tabIn (tgt := 495) (off := 455) (by rw [hc7]; decide) (by rw [hc7]; decide) (by rw [hc7]; decide) (by decide) dL_law_40 ?_
      refine r_aload_n (j := 1) rfl rfl dL_law_495 ?_
      try unfold C_X11_lays at hf
      obtain ⟨⟨fs_r68, ha_r68⟩, hf⟩ := hf
      refine r_invVI (t := 11) (As := []) (dz := d) (mz := 0) (sz := 0) rfl wd_4_172 wd_4_173 wd_4_174 cf_X11_lays (Nat.le_refl _) (Nat.zero_le _) (Nat.zero_le _) (cat_ok (Nat.le_of_ble_eq_true rfl)) rfl rfl ha_r68 dL_law_496 hf (fun r68 σ67 hk => ?_)
      replace hf := hk
      clear hk
      refine r_aload_n (j := 2) rfl rfl dL_law_499 ?_
      try unfold C_X12_lays at hf
      obtain ⟨⟨fs_r70, ha_r70⟩, hf⟩ := hf
      refine r_invVI (t := 12) (As := []) (dz := d) (mz := 0) (sz := 0) rfl wd_8_40 wd_8_41 wd_8_42 cf_X12_lays (Nat.le_refl _) (Nat.zero_le _) (Nat.zero_le _) (cat_ok (Nat.le_of_ble_eq_true rfl)) rfl rfl ha_r70 dL_law_500 hf (fun r70 σ69 hk => ?_)
      replace hf := hk
      clear hk
      refine r_icmpeq (x := r68) (y := r70) (tgt := 1385) (by decide) dL_law_503 (fun hc => ?_) (fun hc => ?_)
      · replace hf := hf.1 hc
        exact r_sub [0, 1, 2, 3, 4] rfl (b_L_law_1385 hX23 hf)
      · replace hf := hf.2 hc
        refine r_iconst (v := 0) (by decide) dL_law_506 ?_
        exact r_lawret (b := false) dL_law_507 hf
    by_cases hc8 : ((x8 &&& 63) : Int32) = 8
    · replace hf := hf.2.2.2.2.2.2.2.2.1 hc8
      refine r_tabIn (tgt := 508) (off := 468) (by rw [hc8]; decide) (by rw [hc8]; decide) (by rw [hc8]; decide) (by decide) dL_law_40 ?_
      refine r_aload_n (j := 1) rfl rfl dL_law_508 ?_
      refine r_aload_n (j := 0) rfl rfl dL_law_509 ?_
      refine r_iload (j := 4) rfl dL_law_510 ?_
      refine r_iconst (v := 1) (by decide) dL_law_512 ?_
      refine r_iadd (x := v4) (y := 1) dL_law_513 ?_
      obtain ⟨N_x71, f_x71, ha_x71, hi_x71, hf⟩ := hf
      refine r_sald ha_x71 hi_x71 dL_law_514 ?_
      generalize f_x71 ((v4 + 1) : Int32).toNatClampNeg = x71 at hf ⊢
      try unfold C_X11_layAt at hf
      obtain ⟨⟨fs_r73, ha_r73⟩, hf⟩ := hf
      refine r_invVI (t := 11) (As := [aI x71]) (dz := d) (mz := 0) (sz := 0) rfl wd_4_181 wd_4_182 wd_4_183 cf_X11_layAt (Nat.le_refl _) (Nat.zero_le _) (Nat.zero_le _) (cat_ok (Nat.le_of_ble_eq_true rfl)) rfl rfl ha_r73 dL_law_515 hf (fun r73 σ72 hk => ?_)
      replace hf := hk
      clear hk
      refine r_aload_n (j := 2) rfl rfl dL_law_518 ?_
      refine r_aload_n (j := 0) rfl rfl dL_law_519 ?_
      refine r_iload (j := 4) rfl dL_law_520 ?_
      refine r_iconst (v := 1) (by decide) dL_law_522 ?_
      refine r_iadd (x := v4) (y := 1) dL_law_523 ?_
      obtain ⟨N_x74, f_x74, ha_x74, hi_x74, hf⟩ := hf
      refine r_sald ha_x74 hi_x74 dL_law_524 ?_
      generalize f_x74 ((v4 + 1) : Int32).toNatClampNeg = x74 at hf ⊢
      try unfold C_X12_layAt at hf
      obtain ⟨⟨fs_r76, ha_r76⟩, hf⟩ := hf
      refine r_invVI (t := 12) (As := [aI x74]) (dz := d) (mz := 0) (sz := 0) rfl wd_8_48 wd_8_49 wd_8_50 cf_X12_layAt (Nat.le_refl _) (Nat.zero_le _) (Nat.zero_le _) (cat_ok (Nat.le_of_ble_eq_true rfl)) rfl rfl ha_r76 dL_law_525 hf (fun r76 σ75 hk => ?_)
      replace hf := hk
      clear hk
      refine r_icmpeq (x := r73) (y := r76) (tgt := 1385) (by decide) dL_law_528 (fun hc => ?_) (fun hc => ?_)
      · replace hf := hf.1 hc
        exact r_sub [0, 1, 2, 3, 4] rfl (b_L_law_1385 hX23 hf)
      · replace hf := hf.2 hc
        refine r_iconst (v := 0) (by decide) dL_law_531 ?_
        exact r_lawret (b := false) dL_law_532 hf
    by_cases hc9 : ((x8 &&& 63) : Int32) = 9
    · replace hf := hf.2.2.2.2.2.2.2.2.2.1 hc9
      refine r_tabIn (tgt := 533) (off := 493) (by rw [hc9]; decide) (by rw [hc9]; decide) (by rw [hc9]; decide) (by decide) dL_law_40 ?_
      refine r_aload_n (j := 1) rfl rfl dL_law_533 ?_
      refine r_aload_n (j := 0) rfl rfl dL_law_534 ?_
      refine r_iload (j := 4) rfl dL_law_535 ?_
      refine r_iconst (v := 1) (by decide) dL_law_537 ?_
      refine r_iadd (x := v4) (y := 1) dL_law_538 ?_
      obtain ⟨N_x77, f_x77, ha_x77, hi_x77, hf⟩ := hf
      refine r_sald ha_x77 hi_x77 dL_law_539 ?_
      generalize f_x77 ((v4 + 1) : Int32).toNatClampNeg = x77 at hf ⊢
      try unfold C_X11_across at hf
      obtain ⟨⟨fs_r79, ha_r79⟩, hf⟩ := hf
      refine r_invVI (t := 11) (As := [aI x77]) (dz := d) (mz := 0) (sz := 0) rfl wd_4_189 wd_4_190 wd_4_191 cf_X11_across (Nat.le_refl _) (Nat.zero_le _) (Nat.zero_le _) (cat_ok (Nat.le_of_ble_eq_true rfl)) rfl rfl ha_r79 dL_law_540 hf (fun r79 σ78 hk => ?_)
      replace hf := hk
      clear hk
      refine r_aload_n (j := 2) rfl rfl dL_law_543 ?_
      refine r_aload_n (j := 0) rfl rfl dL_law_544 ?_
      refine r_iload (j := 4) rfl dL_law_545 ?_
      refine r_iconst (v := 1) (by decide) dL_law_547 ?_
      refine r_iadd (x := v4) (y := 1) dL_law_548 ?_
      obtain ⟨N_x80, f_x80, ha_x80, hi_x80, hf⟩ := hf
      refine r_sald ha_x80 hi_x80 dL_law_549 ?_
      generalize f_x80 ((v4 + 1) : Int32).toNatClampNeg = x80 at hf ⊢
      try unfold C_X12_across at hf
      obtain ⟨⟨fs_r82, ha_r82⟩, hf⟩ := hf
      refine r_invVI (t := 12) (As := [aI x80]) (dz := d) (mz := 0) (sz := 0) rfl wd_8_56 wd_8_57 wd_8_58 cf_X12_across (Nat.le_refl _) (Nat.zero_le _) (Nat.zero_le _) (cat_ok (Nat.le_of_ble_eq_true rfl)) rfl rfl ha_r82 dL_law_550 hf (fun r82 σ81 hk => ?_)
      replace hf := hk
      clear hk
      refine r_icmpeq (x := r79) (y := r82) (tgt := 1385) (by decide) dL_law_553 (fun hc => ?_) (fun hc => ?_)
      · replace hf := hf.1 hc
        exact r_sub [0, 1, 2, 3, 4] rfl (b_L_law_1385 hX23 hf)
      · replace hf := hf.2 hc
        refine r_iconst (v := 0) (by decide) dL_law_556 ?_
        exact r_lawret (b := false) dL_law_557 hf
    by_cases hc10 : ((x8 &&& 63) : Int32) = 10
    · replace hf := hf.2.2.2.2.2.2.2.2.2.2.1 hc10
      refine r_tabIn (tgt := 558) (off := 518) (by rw [hc10]; decide) (by rw [hc10]; decide) (by rw [hc10]; decide) (by decide) dL_law_40 ?_
      refine r_aload_n (j := 1) rfl rfl dL_law_558 ?_
      try unfold C_X11_taken at hf
      obtain ⟨⟨fs_r84, ha_r84⟩, hf⟩ := hf
      refine r_invVI (t := 11) (As := []) (dz := d) (mz := 0) (sz := 0) rfl wd_4_193 wd_4_194 wd_4_195 cf_X11_taken (Nat.le_refl _) (Nat.zero_le _) (Nat.zero_le _) (cat_ok (Nat.le_of_ble_eq_true rfl)) rfl rfl ha_r84 dL_law_559 hf (fun r84 σ83 hk => ?_)
      replace hf := hk
      clear hk
      refine r_aload_n (j := 2) rfl rfl dL_law_562 ?_
      try unfold C_X12_taken at hf
      obtain ⟨⟨fs_r86, ha_r86⟩, hf⟩ := hf
      refine r_invVI (t := 12) (As := []) (dz := d) (mz := 0) (sz := 0) rfl wd_8_68 wd_8_69 wd_8_70 cf_X12_taken (Nat.le_refl _) (Nat.zero_le _) (Nat.zero_le _) (cat_ok (Nat.le_of_ble_eq_true rfl)) rfl rfl ha_r86 dL_law_563 hf (fun r86 σ85 hk => ?_)
      replace hf := hk
      clear hk
      refine r_icmpeq (x := r84) (y := r86) (tgt := 1385) (by decide) dL_law_566 (fun hc => ?_) (fun hc => ?_)
      · replace hf := hf.1 hc
        exact r_sub [0, 1, 2, 3, 4] rfl (b_L_law_1385 hX23 hf)
      · replace hf := hf.2 hc
        refine r_iconst (v := 0) (by decide) dL_law_569 ?_
        exact r_lawret (b := false) dL_law_570 hf
    by_cases hc11 : ((x8 &&& 63) : Int32) = 11
    · replace hf := hf.2.2.2.2.2.2.2.2.2.2.2.1 hc11
      refine r_tabIn (tgt := 571) (off := 531) (by rw [hc11]; decide) (by rw [hc11]; decide) (by rw [hc11]; decide) (by decide) dL_law_40 ?_
      refine r_aload_n (j := 1) rfl rfl dL_law_571 ?_
      try unfold C_X11_dead at hf
      obtain ⟨⟨fs_r88, ha_r88⟩, hf⟩ := hf
      refine r_invVI (t := 11) (As := []) (dz := d) (mz := 0) (sz := 0) rfl wd_4_197 wd_4_198 wd_4_199 cf_X11_dead (Nat.le_refl _) (Nat.zero_le _) (Nat.zero_le _) (cat_ok (Nat.le_of_ble_eq_true rfl)) rfl rfl ha_r88 dL_law_572 hf (fun r88 σ87 hk => ?_)
      replace hf := hk
      clear hk
      refine r_aload_n (j := 2) rfl rfl dL_law_575 ?_
      try unfold C_X12_dead at hf
      obtain ⟨⟨fs_r90, ha_r90⟩, hf⟩ := hf
      refine r_invVI (t := 12) (As := []) (dz := d) (mz := 0) (sz := 0) rfl wd_8_80 wd_8_81 wd_8_82 cf_X12_dead (Nat.le_refl _) (Nat.zero_le _) (Nat.zero_le _) (cat_ok (Nat.le_of_ble_eq_true rfl)) rfl rfl ha_r90 dL_law_576 hf (fun r90 σ89 hk => ?_)
      replace hf := hk
      clear hk
      refine r_icmpeq (x := r88) (y := r90) (tgt := 1385) (by decide) dL_law_579 (fun hc => ?_) (fun hc => ?_)
      · replace hf := hf.1 hc
        exact r_sub [0, 1, 2, 3, 4] rfl (b_L_law_1385 hX23 hf)
      · replace hf := hf.2 hc
        refine r_iconst (v := 0) (by decide) dL_law_582 ?_
        exact r_lawret (b := false) dL_law_583 hf
    by_cases hc12 : ((x8 &&& 63) : Int32) = 12
    · replace hf := hf.2.2.2.2.2.2.2.2.2.2.2.2.1 hc12
      refine r_tabIn (tgt := 584) (off := 544) (by rw [hc12]; decide) (by rw [hc12]; decide) (by rw [hc12]; decide) (by decide) dL_law_40 ?_
      refine r_aload_n (j := 1) rfl rfl dL_law_584 ?_
      try unfold C_X11_over at hf
      obtain ⟨⟨fs_r92, ha_r92⟩, hf⟩ := hf
      refine r_invVI (t := 11) (As := []) (dz := d) (mz := 0) (sz := 0) rfl wd_4_206 wd_4_207 wd_4_208 cf_X11_over (Nat.le_refl _) (Nat.zero_le _) (Nat.zero_le _) (cat_ok (Nat.le_of_ble_eq_true rfl)) rfl rfl ha_r92 dL_law_585 hf (fun r92 σ91 hk => ?_)
      replace hf := hk
      clear hk
      refine r_aload_n (j := 2) rfl rfl dL_law_588 ?_
      try unfold C_X12_over at hf
      obtain ⟨⟨fs_r94, ha_r94⟩, hf⟩ := hf
      refine r_invVI (t := 12) (As := []) (dz := d) (mz := 0) (sz := 0) rfl wd_8_84 wd_8_85 wd_8_86 cf_X12_over (Nat.le_refl _) (Nat.zero_le _) (Nat.zero_le _) (cat_ok (Nat.le_of_ble_eq_true rfl)) rfl rfl ha_r94 dL_law_589 hf (fun r94 σ93 hk => ?_)
      replace hf := hk
      clear hk
      refine r_icmpeq (x := r92) (y := r94) (tgt := 1385) (by decide) dL_law_592 (fun hc => ?_) (fun hc => ?_)
      · replace hf := hf.1 hc
        exact r_sub [0, 1, 2, 3, 4] rfl (b_L_law_1385 hX23 hf)
      · replace hf := hf.2 hc
        refine r_iconst (v := 0) (by decide) dL_law_595 ?_
        exact r_lawret (b := false) dL_law_596 hf
    by_cases hc13 : ((x8 &&& 63) : Int32) = 13
    · replace hf := hf.2.2.2.2.2.2.2.2.2.2.2.2.2.1 hc13
      refine r_tabIn (tgt := 597) (off := 557) (by rw [hc13]; decide) (by rw [hc13]; decide) (by rw [hc13]; decide) (by decide) dL_law_40 ?_
      refine r_aload_n (j := 1) rfl rfl dL_law_597 ?_
      try unfold C_X11_has at hf
      obtain ⟨⟨fs_r96, ha_r96⟩, hf⟩ := hf
      refine r_invVI (t := 11) (As := []) (dz := d) (mz := 0) (sz := 0) rfl wd_4_214 wd_4_215 wd_4_216 cf_X11_has (Nat.le_refl _) (Nat.zero_le _) (Nat.zero_le _) (cat_ok (Nat.le_of_ble_eq_true rfl)) rfl rfl ha_r96 dL_law_598 hf (fun r96 σ95 hk => ?_)
      replace hf := hk
      clear hk
      refine r_aload_n (j := 2) rfl rfl dL_law_601 ?_
      try unfold C_X12_has at hf
      obtain ⟨⟨fs_r98, ha_r98⟩, hf⟩ := hf
      refine r_invVI (t := 12) (As := []) (dz := d) (mz := 0) (sz := 0) rfl wd_8_92 wd_8_93 wd_8_94 cf_X12_has (Nat.le_refl _) (Nat.zero_le _) (Nat.zero_le _) (cat_ok (Nat.le_of_ble_eq_true rfl)) rfl rfl ha_r98 dL_law_602 hf (fun r98 σ97 hk => ?_)
      replace hf := hk
      clear hk
      refine r_icmpeq (x := r96) (y := r98) (tgt := 1385) (by decide) dL_law_605 (fun hc => ?_) (fun hc => ?_)
      · replace hf := hf.1 hc
        exact r_sub [0, 1, 2, 3, 4] rfl (b_L_law_1385 hX23 hf)
      · replace hf := hf.2 hc
        refine r_iconst (v := 0) (by decide) dL_law_608 ?_
        exact r_lawret (b := false) dL_law_609 hf
    by_cases hc14 : ((x8 &&& 63) : Int32) = 14
    · replace hf := hf.2.2.2.2.2.2.2.2.2.2.2.2.2.2.1 hc14
      refine r_tabIn (tgt := 610) (off := 570) (by rw [hc14]; decide) (by rw [hc14]; decide) (by rw [hc14]; decide) (by decide) dL_law_40 ?_
      refine r_aload_n (j := 1) rfl rfl dL_law_610 ?_
      try unfold C_X11_best at hf
      obtain ⟨⟨fs_r100, ha_r100⟩, hf⟩ := hf
      refine r_invVI (t := 11) (As := []) (dz := d) (mz := 0) (sz := 0) rfl wd_5_13 wd_5_14 wd_5_15 cf_X11_best (Nat.le_refl _) (Nat.zero_le _) (Nat.zero_le _) (cat_ok (Nat.le_of_ble_eq_true rfl)) rfl rfl ha_r100 dL_law_611 hf (fun r100 σ99 hk => ?_)
      replace hf := hk
      clear hk
      refine r_aload_n (j := 2) rfl rfl dL_law_614 ?_
      try unfold C_X12_best at hf
      obtain ⟨⟨fs_r102, ha_r102⟩, hf⟩ := hf
      refine r_invVI (t := 12) (As := []) (dz := d) (mz := 0) (sz := 0) rfl wd_8_104 wd_8_105 wd_8_106 cf_X12_best (Nat.le_refl _) (Nat.zero_le _) (Nat.zero_le _) (cat_ok (Nat.le_of_ble_eq_true rfl)) rfl rfl ha_r102 dL_law_615 hf (fun r102 σ101 hk => ?_)
      replace hf := hk
      clear hk
      refine r_icmpeq (x := r100) (y := r102) (tgt := 1385) (by decide) dL_law_618 (fun hc => ?_) (fun hc => ?_)
      · replace hf := hf.1 hc
        exact r_sub [0, 1, 2, 3, 4] rfl (b_L_law_1385 hX23 hf)
      · replace hf := hf.2 hc
        refine r_iconst (v := 0) (by decide) dL_law_621 ?_
        exact r_lawret (b := false) dL_law_622 hf
    by_cases hc15 : ((x8 &&& 63) : Int32) = 15
    · replace hf := hf.2.2.2.2.2.2.2.2.2.2.2.2.2.2.2.1 hc15
      refine r_tabIn (tgt := 623) (off := 583) (by rw [hc15]; decide) (by rw [hc15]; decide) (by rw [hc15]; decide) (by decide) dL_law_40 ?_
      refine r_aload_n (j := 1) rfl rfl dL_law_623 ?_
      try unfold C_X11_good at hf
      obtain ⟨⟨fs_r104, ha_r104⟩, hf⟩ := hf
      refine r_invVI (t := 11) (As := []) (dz := d) (mz := 0) (sz := 0) rfl wd_5_22 wd_5_23 wd_5_24 cf_X11_good (Nat.le_refl _) (Nat.zero_le _) (Nat.zero_le _) (cat_ok (Nat.le_of_ble_eq_true rfl)) rfl rfl ha_r104 dL_law_624 hf (fun r104 σ103 hk => ?_)
      replace hf := hk
      clear hk
      refine r_aload_n (j := 2) rfl rfl dL_law_627 ?_
      try unfold C_X12_good at hf
      obtain ⟨⟨fs_r106, ha_r106⟩, hf⟩ := hf
      refine r_invVI (t := 12) (As := []) (dz := d) (mz := 0) (sz := 0) rfl wd_8_112 wd_8_113 wd_8_114 cf_X12_good (Nat.le_refl _) (Nat.zero_le _) (Nat.zero_le _) (cat_ok (Nat.le_of_ble_eq_true rfl)) rfl rfl ha_r106 dL_law_628 hf (fun r106 σ105 hk => ?_)
      replace hf := hk
      clear hk
      refine r_icmpeq (x := r104) (y := r106) (tgt := 1385) (by decide) dL_law_631 (fun hc => ?_) (fun hc => ?_)
      · replace hf := hf.1 hc
        exact r_sub [0, 1, 2, 3, 4] rfl (b_L_law_1385 hX23 hf)
      · replace hf := hf.2 hc
        refine r_iconst (v := 0) (by decide) dL_law_634 ?_
        exact r_lawret (b := false) dL_law_635 hf
    by_cases hc16 : ((x8 &&& 63) : Int32) = 16
    · replace hf := hf.2.2.2.2.2.2.2.2.2.2.2.2.2.2.2.2.1 hc16
      refine r_tabIn (tgt := 636) (off := 596) (by rw [hc16]; decide) (by rw [hc16]; decide) (by rw [hc16]; decide) (by decide) dL_law_40 ?_
      refine r_aload_n (j := 1) rfl rfl dL_law_636 ?_
      try unfold C_X11_soonest at hf
      obtain ⟨⟨fs_r108, ha_r108⟩, hf⟩ := hf
      refine r_invVI (t := 11) (As := []) (dz := d) (mz := 0) (sz := 0) rfl wd_5_30 wd_5_31 wd_5_32 cf_X11_soonest (Nat.le_refl _) (Nat.zero_le _) (Nat.zero_le _) (cat_ok (Nat.le_of_ble_eq_true rfl)) rfl rfl ha_r108 dL_law_637 hf (fun r108 σ107 hk => ?_)
      replace hf := hk
      clear hk
      refine r_aload_n (j := 2) rfl rfl dL_law_640 ?_
      try unfold C_X12_soonest at hf
      obtain ⟨⟨fs_r110, ha_r110⟩, hf⟩ := hf
      refine r_invVI (t := 12) (As := []) (dz := d) (mz := 0) (sz := 0) rfl wd_8_116 wd_8_117 wd_8_118 cf_X12_soonest (Nat.le_refl _) (Nat.zero_le _) (Nat.zero_le _) (cat_ok (Nat.le_of_ble_eq_true rfl)) rfl rfl ha_r110 dL_law_641 hf (fun r110 σ109 hk => ?_)
      replace hf := hk
      clear hk
      refine r_icmpeq (x := r108) (y := r110) (tgt := 1385) (by decide) dL_law_644 (fun hc => ?_) (fun hc => ?_)
      · replace hf := hf.1 hc
        exact r_sub [0, 1, 2, 3, 4] rfl (b_L_law_1385 hX23 hf)
      · replace hf := hf.2 hc
        refine r_iconst (v := 0) (by decide) dL_law_647 ?_
        exact r_lawret (b := false) dL_law_648 hf
    by_cases hc17 : ((x8 &&& 63) : Int32) = 17
    · replace hf := hf.2.2.2.2.2.2.2.2.2.2.2.2.2.2.2.2.2.1 hc17
      refine r_tabIn (tgt := 649) (off := 609) (by rw [hc17]; decide) (by rw [hc17]; decide) (by rw [hc17]; decide) (by decide) dL_law_40 ?_
      refine r_aload_n (j := 1) rfl rfl dL_law_649 ?_
      try unfold C_X11_ways at hf
      obtain ⟨⟨fs_r112, ha_r112⟩, hf⟩ := hf
      refine r_invVJ (t := 11) (As := []) (dz := d) (mz := 0) (sz := 0) rfl wd_5_42 wd_5_43 wd_5_44 cf_X11_ways (Nat.le_refl _) (Nat.zero_le _) (Nat.zero_le _) (cat_ok (Nat.le_of_ble_eq_true rfl)) rfl rfl ha_r112 dL_law_650 hf (fun r112 σ111 hk => ?_)
      replace hf := hk
      clear hk
      refine r_aload_n (j := 2) rfl rfl dL_law_653 ?_
      try unfold C_X12_ways at hf
      obtain ⟨⟨fs_r114, ha_r114⟩, hf⟩ := hf
      refine r_invVJ (t := 12) (As := []) (dz := d) (mz := 0) (sz := 0) rfl wd_8_124 wd_8_125 wd_8_126 cf_X12_ways (Nat.le_refl _) (Nat.zero_le _) (Nat.zero_le _) (cat_ok (Nat.le_of_ble_eq_true rfl)) rfl rfl ha_r114 dL_law_654 hf (fun r114 σ113 hk => ?_)
      replace hf := hk
      clear hk
      refine r_lcmp (x := r112) (y := r114) dL_law_657 ?_
      refine r_ifeq (x := (lg_cmp r112 r114)) (tgt := 1385) (by decide) dL_law_658 (fun hc => ?_) (fun hc => ?_)
      · replace hf := hf.1 hc
        exact r_sub [0, 1, 2, 3, 4] rfl (b_L_law_1385 hX23 hf)
      · replace hf := hf.2 hc
        refine r_iconst (v := 0) (by decide) dL_law_661 ?_
        exact r_lawret (b := false) dL_law_662 hf
    by_cases hc18 : ((x8 &&& 63) : Int32) = 18
    · replace hf := hf.2.2.2.2.2.2.2.2.2.2.2.2.2.2.2.2.2.2.1 hc18
      refine r_tabIn (tgt := 663) (off := 623) (by rw [hc18]; decide) (by rw [hc18]; decide) (by rw [hc18]; decide) (by decide) dL_law_40 ?_
      refine r_aload_n (j := 1) rfl rfl dL_law_663 ?_
      refine r_aload_n (j := 0) rfl rfl dL_law_664 ?_
      refine r_iload (j := 4) rfl dL_law_665 ?_
      refine r_iconst (v := 1) (by decide) dL_law_667 ?_
      refine r_iadd (x := v4) (y := 1) dL_law_668 ?_
      obtain ⟨N_x115, f_x115, ha_x115, hi_x115, hf⟩ := hf
      refine r_sald ha_x115 hi_x115 dL_law_669 ?_
      generalize f_x115 ((v4 + 1) : Int32).toNatClampNeg = x115 at hf ⊢
      try unfold C_X11_heap at hf
      obtain ⟨⟨fs_r117, ha_r117⟩, hf⟩ := hf
      refine r_invVI (t := 11) (As := [aI x115]) (dz := d) (mz := 0) (sz := 0) rfl wd_5_50 wd_5_51 wd_5_52 cf_X11_heap (Nat.le_refl _) (Nat.zero_le _) (Nat.zero_le _) (cat_ok (Nat.le_of_ble_eq_true rfl)) rfl rfl ha_r117 dL_law_670 hf (fun r117 σ116 hk => ?_)
      replace hf := hk
      clear hk
      refine r_aload_n (j := 2) rfl rfl dL_law_673 ?_
      refine r_aload_n (j := 0) rfl rfl dL_law_674 ?_
      refine r_iload (j := 4) rfl dL_law_675 ?_
      refine r_iconst (v := 1) (by decide) dL_law_677 ?_
      refine r_iadd (x := v4) (y := 1) dL_law_678 ?_
      obtain ⟨N_x118, f_x118, ha_x118, hi_x118, hf⟩ := hf
      refine r_sald ha_x118 hi_x118 dL_law_679 ?_
      generalize f_x118 ((v4 + 1) : Int32).toNatClampNeg = x118 at hf ⊢
      try unfold C_X12_heap at hf
      obtain ⟨⟨fs_r120, ha_r120⟩, hf⟩ := hf
      refine r_invVI (t := 12) (As := [aI x118]) (dz := d) (mz := 0) (sz := 0) rfl wd_8_133 wd_8_134 wd_8_135 cf_X12_heap (Nat.le_refl _) (Nat.zero_le _) (Nat.zero_le _) (cat_ok (Nat.le_of_ble_eq_true rfl)) rfl rfl ha_r120 dL_law_680 hf (fun r120 σ119 hk => ?_)
      replace hf := hk
      clear hk
      refine r_icmpeq (x := r117) (y := r120) (tgt := 1385) (by decide) dL_law_683 (fun hc => ?_) (fun hc => ?_)
      · replace hf := hf.1 hc
        exact r_sub [0, 1, 2, 3, 4] rfl (b_L_law_1385 hX23 hf)
      · replace hf := hf.2 hc
        refine r_iconst (v := 0) (by decide) dL_law_686 ?_
        exact r_lawret (b := false) dL_law_687 hf
    by_cases hc19 : ((x8 &&& 63) : Int32) = 19
    · replace hf := hf.2.2.2.2.2.2.2.2.2.2.2.2.2.2.2.2.2.2.2.1 hc19
      refine r_tabIn (tgt := 688) (off := 648) (by rw [hc19]; decide) (by rw [hc19]; decide) (by rw [hc19]; decide) (by decide) dL_law_40 ?_
      refine r_aload_n (j := 1) rfl rfl dL_law_688 ?_
      try unfold C_X11_byAcross at hf
      obtain ⟨⟨fs_r122, ha_r122⟩, hf⟩ := hf
      refine r_invVI (t := 11) (As := []) (dz := d) (mz := 0) (sz := 0) rfl wd_5_86 wd_5_87 wd_5_88 cf_X11_byAcross (Nat.le_refl _) (Nat.zero_le _) (Nat.zero_le _) (cat_ok (Nat.le_of_ble_eq_true rfl)) rfl rfl ha_r122 dL_law_689 hf (fun r122 σ121 hk => ?_)
      replace hf := hk
      clear hk
      refine r_aload_n (j := 2) rfl rfl dL_law_692 ?_
      try unfold C_X12_byAcross at hf
      obtain ⟨⟨fs_r124, ha_r124⟩, hf⟩ := hf
      refine r_invVI (t := 12) (As := []) (dz := d) (mz := 0) (sz := 0) rfl wd_8_157 wd_8_158 wd_8_159 cf_X12_byAcross (Nat.le_refl _) (Nat.zero_le _) (Nat.zero_le _) (cat_ok (Nat.le_of_ble_eq_true rfl)) rfl rfl ha_r124 dL_law_693 hf (fun r124 σ123 hk => ?_)
      replace hf := hk
      clear hk
      refine r_icmpeq (x := r122) (y := r124) (tgt := 1385) (by decide) dL_law_696 (fun hc => ?_) (fun hc => ?_)
      · replace hf := hf.1 hc
        exact r_sub [0, 1, 2, 3, 4] rfl (b_L_law_1385 hX23 hf)
      · replace hf := hf.2 hc
        refine r_iconst (v := 0) (by decide) dL_law_699 ?_
        exact r_lawret (b := false) dL_law_700 hf
    by_cases hc20 : ((x8 &&& 63) : Int32) = 20
    · replace hf := hf.2.2.2.2.2.2.2.2.2.2.2.2.2.2.2.2.2.2.2.2.1 hc20
      refine r_tabIn (tgt := 701) (off := 661) (by rw [hc20]; decide) (by rw [hc20]; decide) (by rw [hc20]; decide) (by decide) dL_law_40 ?_
      refine r_aload_n (j := 1) rfl rfl dL_law_701 ?_
      refine r_aload_n (j := 0) rfl rfl dL_law_702 ?_
      refine r_iload (j := 4) rfl dL_law_703 ?_
      refine r_iconst (v := 1) (by decide) dL_law_705 ?_
      refine r_iadd (x := v4) (y := 1) dL_law_706 ?_
      obtain ⟨N_x125, f_x125, ha_x125, hi_x125, hf⟩ := hf
      refine r_sald ha_x125 hi_x125 dL_law_707 ?_
      generalize f_x125 ((v4 + 1) : Int32).toNatClampNeg = x125 at hf ⊢
      try unfold C_X11_half at hf
      obtain ⟨⟨fs_r127, ha_r127⟩, hf⟩ := hf
      refine r_invVI (t := 11) (As := [aI x125]) (dz := d) (mz := 0) (sz := 0) rfl wd_5_108 wd_5_109 wd_5_110 cf_X11_half (Nat.le_refl _) (Nat.zero_le _) (Nat.zero_le _) (cat_ok (Nat.le_of_ble_eq_true rfl)) rfl rfl ha_r127 dL_law_708 hf (fun r127 σ126 hk => ?_)
      replace hf := hk
      clear hk
      refine r_aload_n (j := 2) rfl rfl dL_law_711 ?_
      refine r_aload_n (j := 0) rfl rfl dL_law_712 ?_
      refine r_iload (j := 4) rfl dL_law_713 ?_
      refine r_iconst (v := 1) (by decide) dL_law_715 ?_
      refine r_iadd (x := v4) (y := 1) dL_law_716 ?_
      obtain ⟨N_x128, f_x128, ha_x128, hi_x128, hf⟩ := hf
      refine r_sald ha_x128 hi_x128 dL_law_717 ?_
      generalize f_x128 ((v4 + 1) : Int32).toNatClampNeg = x128 at hf ⊢
      try unfold C_X12_half at hf
      obtain ⟨⟨fs_r130, ha_r130⟩, hf⟩ := hf
      refine r_invVI (t := 12) (As := [aI x128]) (dz := d) (mz := 0) (sz := 0) rfl wd_8_149 wd_8_150 wd_8_151 cf_X12_half (Nat.le_refl _) (Nat.zero_le _) (Nat.zero_le _) (cat_ok (Nat.le_of_ble_eq_true rfl)) rfl rfl ha_r130 dL_law_718 hf (fun r130 σ129 hk => ?_)
      replace hf := hk
      clear hk
      refine r_icmpeq (x := r127) (y := r130) (tgt := 1385) (by decide) dL_law_721 (fun hc => ?_) (fun hc => ?_)
      · replace hf := hf.1 hc
        exact r_sub [0, 1, 2, 3, 4] rfl (b_L_law_1385 hX23 hf)
      · replace hf := hf.2 hc
        refine r_iconst (v := 0) (by decide) dL_law_724 ?_
        exact r_lawret (b := false) dL_law_725 hf
    by_cases hc21 : ((x8 &&& 63) : Int32) = 21
    · replace hf := hf.2.2.2.2.2.2.2.2.2.2.2.2.2.2.2.2.2.2.2.2.2.1 hc21
      refine r_tabIn (tgt := 726) (off := 686) (by rw [hc21]; decide) (by rw [hc21]; decide) (by rw [hc21]; decide) (by decide) dL_law_40 ?_
      refine r_aload_n (j := 1) rfl rfl dL_law_726 ?_
      refine r_aload_n (j := 0) rfl rfl dL_law_727 ?_
      refine r_iload (j := 4) rfl dL_law_728 ?_
      refine r_iconst (v := 1) (by decide) dL_law_730 ?_
      refine r_iadd (x := v4) (y := 1) dL_law_731 ?_
      obtain ⟨N_x131, f_x131, ha_x131, hi_x131, hf⟩ := hf
      refine r_sald ha_x131 hi_x131 dL_law_732 ?_
      generalize f_x131 ((v4 + 1) : Int32).toNatClampNeg = x131 at hf ⊢
      try unfold C_X11_spoils at hf
      obtain ⟨⟨fs_r133, ha_r133⟩, hf⟩ := hf
      refine r_invVI (t := 11) (As := [aI x131]) (dz := d) (mz := 0) (sz := 0) rfl wd_5_113 wd_5_114 wd_5_115 cf_X11_spoils (Nat.le_refl _) (Nat.zero_le _) (Nat.zero_le _) (cat_ok (Nat.le_of_ble_eq_true rfl)) rfl rfl ha_r133 dL_law_733 hf (fun r133 σ132 hk => ?_)
      replace hf := hk
      clear hk
      refine r_aload_n (j := 2) rfl rfl dL_law_736 ?_
      refine r_aload_n (j := 0) rfl rfl dL_law_737 ?_
      refine r_iload (j := 4) rfl dL_law_738 ?_
      refine r_iconst (v := 1) (by decide) dL_law_740 ?_
      refine r_iadd (x := v4) (y := 1) dL_law_741 ?_
      obtain ⟨N_x134, f_x134, ha_x134, hi_x134, hf⟩ := hf
      refine r_sald ha_x134 hi_x134 dL_law_742 ?_
      generalize f_x134 ((v4 + 1) : Int32).toNatClampNeg = x134 at hf ⊢
      try unfold C_X12_spoils at hf
      obtain ⟨⟨fs_r136, ha_r136⟩, hf⟩ := hf
      refine r_invVI (t := 12) (As := [aI x134]) (dz := d) (mz := 0) (sz := 0) rfl wd_8_72 wd_8_73 wd_8_74 cf_X12_spoils (Nat.le_refl _) (Nat.zero_le _) (Nat.zero_le _) (cat_ok (Nat.le_of_ble_eq_true rfl)) rfl rfl ha_r136 dL_law_743 hf (fun r136 σ135 hk => ?_)
      replace hf := hk
      clear hk
      refine r_icmpeq (x := r133) (y := r136) (tgt := 1385) (by decide) dL_law_746 (fun hc => ?_) (fun hc => ?_)
      · replace hf := hf.1 hc
        exact r_sub [0, 1, 2, 3, 4] rfl (b_L_law_1385 hX23 hf)
      · replace hf := hf.2 hc
        refine r_iconst (v := 0) (by decide) dL_law_749 ?_
        exact r_lawret (b := false) dL_law_750 hf
    by_cases hc22 : ((x8 &&& 63) : Int32) = 22
    · replace hf := hf.2.2.2.2.2.2.2.2.2.2.2.2.2.2.2.2.2.2.2.2.2.2.1 hc22
      refine r_tabIn (tgt := 751) (off := 711) (by rw [hc22]; decide) (by rw [hc22]; decide) (by rw [hc22]; decide) (by decide) dL_law_40 ?_
      refine r_aload_n (j := 1) rfl rfl dL_law_751 ?_
      refine r_aload_n (j := 0) rfl rfl dL_law_752 ?_
      refine r_iload (j := 4) rfl dL_law_753 ?_
      refine r_iconst (v := 1) (by decide) dL_law_755 ?_
      refine r_iadd (x := v4) (y := 1) dL_law_756 ?_
      obtain ⟨N_x137, f_x137, ha_x137, hi_x137, hf⟩ := hf
      refine r_sald ha_x137 hi_x137 dL_law_757 ?_
      generalize f_x137 ((v4 + 1) : Int32).toNatClampNeg = x137 at hf ⊢
      try unfold C_X11_open at hf
      obtain ⟨⟨fs_r139, ha_r139⟩, hf⟩ := hf
      refine r_invVI (t := 11) (As := [aI x137]) (dz := d) (mz := 0) (sz := 0) rfl wd_5_121 wd_5_122 wd_5_123 cf_X11_open (Nat.le_refl _) (Nat.zero_le _) (Nat.zero_le _) (cat_ok (Nat.le_of_ble_eq_true rfl)) rfl rfl ha_r139 dL_law_758 hf (fun r139 σ138 hk => ?_)
      replace hf := hk
      clear hk
      refine r_aload_n (j := 2) rfl rfl dL_law_761 ?_
      refine r_aload_n (j := 0) rfl rfl dL_law_762 ?_
      refine r_iload (j := 4) rfl dL_law_763 ?_
      refine r_iconst (v := 1) (by decide) dL_law_765 ?_
      refine r_iadd (x := v4) (y := 1) dL_law_766 ?_
      obtain ⟨N_x140, f_x140, ha_x140, hi_x140, hf⟩ := hf
      refine r_sald ha_x140 hi_x140 dL_law_767 ?_
      generalize f_x140 ((v4 + 1) : Int32).toNatClampNeg = x140 at hf ⊢
      try unfold C_X12_open at hf
      obtain ⟨⟨fs_r142, ha_r142⟩, hf⟩ := hf
      refine r_invVI (t := 12) (As := [aI x140]) (dz := d) (mz := 0) (sz := 0) rfl wd_8_76 wd_8_77 wd_8_78 cf_X12_open (Nat.le_refl _) (Nat.zero_le _) (Nat.zero_le _) (cat_ok (Nat.le_of_ble_eq_true rfl)) rfl rfl ha_r142 dL_law_768 hf (fun r142 σ141 hk => ?_)
      replace hf := hk
      clear hk
      refine r_icmpeq (x := r139) (y := r142) (tgt := 1385) (by decide) dL_law_771 (fun hc => ?_) (fun hc => ?_)
      · replace hf := hf.1 hc
        exact r_sub [0, 1, 2, 3, 4] rfl (b_L_law_1385 hX23 hf)
      · replace hf := hf.2 hc
        refine r_iconst (v := 0) (by decide) dL_law_774 ?_
        exact r_lawret (b := false) dL_law_775 hf
    by_cases hc23 : ((x8 &&& 63) : Int32) = 23
    · replace hf := hf.2.2.2.2.2.2.2.2.2.2.2.2.2.2.2.2.2.2.2.2.2.2.2.1 hc23
      refine r_tabIn (tgt := 776) (off := 736) (by rw [hc23]; decide) (by rw [hc23]; decide) (by rw [hc23]; decide) (by decide) dL_law_40 ?_
      refine r_aload_n (j := 1) rfl rfl dL_law_776 ?_
      try unfold C_X11_elbow at hf
      obtain ⟨⟨fs_r144, ha_r144⟩, hf⟩ := hf
      refine r_invVI (t := 11) (As := []) (dz := d) (mz := 0) (sz := 0) rfl wd_5_129 wd_5_130 wd_5_131 cf_X11_elbow (Nat.le_refl _) (Nat.zero_le _) (Nat.zero_le _) (cat_ok (Nat.le_of_ble_eq_true rfl)) rfl rfl ha_r144 dL_law_777 hf (fun r144 σ143 hk => ?_)
      replace hf := hk
      clear hk
      refine r_aload_n (j := 2) rfl rfl dL_law_780 ?_
      try unfold C_X12_elbow at hf
      obtain ⟨⟨fs_r146, ha_r146⟩, hf⟩ := hf
      refine r_invVI (t := 12) (As := []) (dz := d) (mz := 0) (sz := 0) rfl wd_8_165 wd_8_166 wd_8_167 cf_X12_elbow (Nat.le_refl _) (Nat.zero_le _) (Nat.zero_le _) (cat_ok (Nat.le_of_ble_eq_true rfl)) rfl rfl ha_r146 dL_law_781 hf (fun r146 σ145 hk => ?_)
      replace hf := hk
      clear hk
      refine r_icmpeq (x := r144) (y := r146) (tgt := 1385) (by decide) dL_law_784 (fun hc => ?_) (fun hc => ?_)
      · replace hf := hf.1 hc
        exact r_sub [0, 1, 2, 3, 4] rfl (b_L_law_1385 hX23 hf)
      · replace hf := hf.2 hc
        refine r_iconst (v := 0) (by decide) dL_law_787 ?_
        exact r_lawret (b := false) dL_law_788 hf
    by_cases hc24 : ((x8 &&& 63) : Int32) = 24
    · replace hf := hf.2.2.2.2.2.2.2.2.2.2.2.2.2.2.2.2.2.2.2.2.2.2.2.2.1 hc24
      refine r_tabIn (tgt := 789) (off := 749) (by rw [hc24]; decide) (by rw [hc24]; decide) (by rw [hc24]; decide) (by decide) dL_law_40 ?_
      refine r_aload_n (j := 1) rfl rfl dL_law_789 ?_
      try unfold C_X11_fewest at hf
      obtain ⟨⟨fs_r148, ha_r148⟩, hf⟩ := hf
      refine r_invVI (t := 11) (As := []) (dz := d) (mz := 0) (sz := 0) rfl wd_5_137 wd_5_138 wd_5_139 cf_X11_fewest (Nat.le_refl _) (Nat.zero_le _) (Nat.zero_le _) (cat_ok (Nat.le_of_ble_eq_true rfl)) rfl rfl ha_r148 dL_law_790 hf (fun r148 σ147 hk => ?_)
      replace hf := hk
      clear hk
      refine r_aload_n (j := 2) rfl rfl dL_law_793 ?_
      try unfold C_X12_fewest at hf
      obtain ⟨⟨fs_r150, ha_r150⟩, hf⟩ := hf
      refine r_invVI (t := 12) (As := []) (dz := d) (mz := 0) (sz := 0) rfl wd_8_169 wd_8_170 wd_8_171 cf_X12_fewest (Nat.le_refl _) (Nat.zero_le _) (Nat.zero_le _) (cat_ok (Nat.le_of_ble_eq_true rfl)) rfl rfl ha_r150 dL_law_794 hf (fun r150 σ149 hk => ?_)
      replace hf := hk
      clear hk
      refine r_icmpeq (x := r148) (y := r150) (tgt := 1385) (by decide) dL_law_797 (fun hc => ?_) (fun hc => ?_)
      · replace hf := hf.1 hc
        exact r_sub [0, 1, 2, 3, 4] rfl (b_L_law_1385 hX23 hf)
      · replace hf := hf.2 hc
        refine r_iconst (v := 0) (by decide) dL_law_800 ?_
        exact r_lawret (b := false) dL_law_801 hf
    by_cases hc25 : ((x8 &&& 63) : Int32) = 25
    · replace hf := hf.2.2.2.2.2.2.2.2.2.2.2.2.2.2.2.2.2.2.2.2.2.2.2.2.2.1 hc25
      refine r_tabIn (tgt := 802) (off := 762) (by rw [hc25]; decide) (by rw [hc25]; decide) (by rw [hc25]; decide) (by decide) dL_law_40 ?_
      refine r_aload_n (j := 1) rfl rfl dL_law_802 ?_
      try unfold C_X11_most at hf
      obtain ⟨⟨fs_r152, ha_r152⟩, hf⟩ := hf
      refine r_invVI (t := 11) (As := []) (dz := d) (mz := 0) (sz := 0) rfl wd_5_141 wd_5_142 wd_5_143 cf_X11_most (Nat.le_refl _) (Nat.zero_le _) (Nat.zero_le _) (cat_ok (Nat.le_of_ble_eq_true rfl)) rfl rfl ha_r152 dL_law_803 hf (fun r152 σ151 hk => ?_)
      replace hf := hk
      clear hk
      refine r_aload_n (j := 2) rfl rfl dL_law_806 ?_
      try unfold C_X12_most at hf
      obtain ⟨⟨fs_r154, ha_r154⟩, hf⟩ := hf
      refine r_invVI (t := 12) (As := []) (dz := d) (mz := 0) (sz := 0) rfl wd_8_177 wd_8_178 wd_8_179 cf_X12_most (Nat.le_refl _) (Nat.zero_le _) (Nat.zero_le _) (cat_ok (Nat.le_of_ble_eq_true rfl)) rfl rfl ha_r154 dL_law_807 hf (fun r154 σ153 hk => ?_)
      replace hf := hk
      clear hk
      refine r_icmpeq (x := r152) (y := r154) (tgt := 1385) (by decide) dL_law_810 (fun hc => ?_) (fun hc => ?_)
      · replace hf := hf.1 hc
        exact r_sub [0, 1, 2, 3, 4] rfl (b_L_law_1385 hX23 hf)
      · replace hf := hf.2 hc
        refine r_iconst (v := 0) (by decide) dL_law_813 ?_
        exact r_lawret (b := false) dL_law_814 hf
    by_cases hc26 : ((x8 &&& 63) : Int32) = 26
    · replace hf := hf.2.2.2.2.2.2.2.2.2.2.2.2.2.2.2.2.2.2.2.2.2.2.2.2.2.2.1 hc26
      refine r_tabIn (tgt := 815) (off := 775) (by rw [hc26]; decide) (by rw [hc26]; decide) (by rw [hc26]; decide) (by decide) dL_law_40 ?_
      refine r_aload_n (j := 1) rfl rfl dL_law_815 ?_
      try unfold C_X11_lot at hf
      obtain ⟨⟨fs_r156, ha_r156⟩, hf⟩ := hf
      refine r_invVI (t := 11) (As := []) (dz := d) (mz := 0) (sz := 0) rfl wd_5_145 wd_5_146 wd_5_147 cf_X11_lot (Nat.le_refl _) (Nat.zero_le _) (Nat.zero_le _) (cat_ok (Nat.le_of_ble_eq_true rfl)) rfl rfl ha_r156 dL_law_816 hf (fun r156 σ155 hk => ?_)
      replace hf := hk
      clear hk
      refine r_aload_n (j := 2) rfl rfl dL_law_819 ?_
      try unfold C_X12_lot at hf
      obtain ⟨⟨fs_r158, ha_r158⟩, hf⟩ := hf
      refine r_invVI (t := 12) (As := []) (dz := d) (mz := 0) (sz := 0) rfl wd_8_185 wd_8_186 wd_8_187 cf_X12_lot (Nat.le_refl _) (Nat.zero_le _) (Nat.zero_le _) (cat_ok (Nat.le_of_ble_eq_true rfl)) rfl rfl ha_r158 dL_law_820 hf (fun r158 σ157 hk => ?_)
      replace hf := hk
      clear hk
      refine r_icmpeq (x := r156) (y := r158) (tgt := 1385) (by decide) dL_law_823 (fun hc => ?_) (fun hc => ?_)
      · replace hf := hf.1 hc
        exact r_sub [0, 1, 2, 3, 4] rfl (b_L_law_1385 hX23 hf)
      · replace hf := hf.2 hc
        refine r_iconst (v := 0) (by decide) dL_law_826 ?_
        exact r_lawret (b := false) dL_law_827 hf
    by_cases hc27 : ((x8 &&& 63) : Int32) = 27
    · replace hf := hf.2.2.2.2.2.2.2.2.2.2.2.2.2.2.2.2.2.2.2.2.2.2.2.2.2.2.2.1 hc27
      refine r_tabIn (tgt := 828) (off := 788) (by rw [hc27]; decide) (by rw [hc27]; decide) (by rw [hc27]; decide) (by decide) dL_law_40 ?_
      refine r_aload_n (j := 1) rfl rfl dL_law_828 ?_
      refine r_aload_n (j := 0) rfl rfl dL_law_829 ?_
      refine r_iload (j := 4) rfl dL_law_830 ?_
      refine r_iconst (v := 1) (by decide) dL_law_832 ?_
      refine r_iadd (x := v4) (y := 1) dL_law_833 ?_
      obtain ⟨N_x159, f_x159, ha_x159, hi_x159, hf⟩ := hf
      refine r_sald ha_x159 hi_x159 dL_law_834 ?_
      generalize f_x159 ((v4 + 1) : Int32).toNatClampNeg = x159 at hf ⊢
      refine r_aload_n (j := 0) rfl rfl dL_law_835 ?_
      refine r_iload (j := 4) rfl dL_law_836 ?_
      refine r_iconst (v := 2) (by decide) dL_law_838 ?_
      refine r_iadd (x := v4) (y := 2) dL_law_839 ?_
      obtain ⟨N_x160, f_x160, ha_x160, hi_x160, hf⟩ := hf
      refine r_sald ha_x160 hi_x160 dL_law_840 ?_
      generalize f_x160 ((v4 + 2) : Int32).toNatClampNeg = x160 at hf ⊢
      try unfold C_X11_size at hf
      obtain ⟨⟨fs_r162, ha_r162⟩, hf⟩ := hf
      refine r_invVI (t := 11) (As := [aI x159, aI x160]) (dz := d) (mz := 0) (sz := 0) rfl wd_5_149 wd_5_150 wd_5_151 cf_X11_size (Nat.le_refl _) (Nat.zero_le _) (Nat.zero_le _) (cat_ok (Nat.le_of_ble_eq_true rfl)) rfl rfl ha_r162 dL_law_841 hf (fun r162 σ161 hk => ?_)
      replace hf := hk
      clear hk
      refine r_aload_n (j := 2) rfl rfl dL_law_844 ?_
      refine r_aload_n (j := 0) rfl rfl dL_law_845 ?_
      refine r_iload (j := 4) rfl dL_law_846 ?_
      refine r_iconst (v := 1) (by decide) dL_law_848 ?_
      refine r_iadd (x := v4) (y := 1) dL_law_849 ?_
      obtain ⟨N_x163, f_x163, ha_x163, hi_x163, hf⟩ := hf
      refine r_sald ha_x163 hi_x163 dL_law_850 ?_
      generalize f_x163 ((v4 + 1) : Int32).toNatClampNeg = x163 at hf ⊢
      refine r_aload_n (j := 0) rfl rfl dL_law_851 ?_
      refine r_iload (j := 4) rfl dL_law_852 ?_
      refine r_iconst (v := 2) (by decide) dL_law_854 ?_
      refine r_iadd (x := v4) (y := 2) dL_law_855 ?_
      obtain ⟨N_x164, f_x164, ha_x164, hi_x164, hf⟩ := hf
      refine r_sald ha_x164 hi_x164 dL_law_856 ?_
      generalize f_x164 ((v4 + 2) : Int32).toNatClampNeg = x164 at hf ⊢
      try unfold C_X12_size at hf
      obtain ⟨⟨fs_r166, ha_r166⟩, hf⟩ := hf
      refine r_invVI (t := 12) (As := [aI x163, aI x164]) (dz := d) (mz := 0) (sz := 0) rfl wd_8_194 wd_8_195 wd_8_196 cf_X12_size (Nat.le_refl _) (Nat.zero_le _) (Nat.zero_le _) (cat_ok (Nat.le_of_ble_eq_true rfl)) rfl rfl ha_r166 dL_law_857 hf (fun r166 σ165 hk => ?_)
      replace hf := hk
      clear hk
      refine r_icmpeq (x := r162) (y := r166) (tgt := 1385) (by decide) dL_law_860 (fun hc => ?_) (fun hc => ?_)
      · replace hf := hf.1 hc
        exact r_sub [0, 1, 2, 3, 4] rfl (b_L_law_1385 hX23 hf)
      · replace hf := hf.2 hc
        refine r_iconst (v := 0) (by decide) dL_law_863 ?_
        exact r_lawret (b := false) dL_law_864 hf
    by_cases hc28 : ((x8 &&& 63) : Int32) = 28
    · replace hf := hf.2.2.2.2.2.2.2.2.2.2.2.2.2.2.2.2.2.2.2.2.2.2.2.2.2.2.2.2.1 hc28
      refine r_tabIn (tgt := 865) (off := 825) (by rw [hc28]; decide) (by rw [hc28]; decide) (by rw [hc28]; decide) (by decide) dL_law_40 ?_
      refine r_aload_n (j := 1) rfl rfl dL_law_865 ?_
      refine r_aload_n (j := 0) rfl rfl dL_law_866 ?_
      refine r_iload (j := 4) rfl dL_law_867 ?_
      refine r_iconst (v := 1) (by decide) dL_law_869 ?_
      refine r_iadd (x := v4) (y := 1) dL_law_870 ?_
      obtain ⟨N_x167, f_x167, ha_x167, hi_x167, hf⟩ := hf
      refine r_sald ha_x167 hi_x167 dL_law_871 ?_
      generalize f_x167 ((v4 + 1) : Int32).toNatClampNeg = x167 at hf ⊢
      refine r_aload_n (j := 0) rfl rfl dL_law_872 ?_
      refine r_iload (j := 4) rfl dL_law_873 ?_
      refine r_iconst (v := 2) (by decide) dL_law_875 ?_
      refine r_iadd (x := v4) (y := 2) dL_law_876 ?_
      obtain ⟨N_x168, f_x168, ha_x168, hi_x168, hf⟩ := hf
      refine r_sald ha_x168 hi_x168 dL_law_877 ?_
      generalize f_x168 ((v4 + 2) : Int32).toNatClampNeg = x168 at hf ⊢
      refine r_aload_n (j := 0) rfl rfl dL_law_878 ?_
      refine r_iload (j := 4) rfl dL_law_879 ?_
      refine r_iconst (v := 3) (by decide) dL_law_881 ?_
      refine r_iadd (x := v4) (y := 3) dL_law_882 ?_
      obtain ⟨N_x169, f_x169, ha_x169, hi_x169, hf⟩ := hf
      refine r_sald ha_x169 hi_x169 dL_law_883 ?_
      generalize f_x169 ((v4 + 3) : Int32).toNatClampNeg = x169 at hf ⊢
      refine r_aload_n (j := 0) rfl rfl dL_law_884 ?_
      refine r_iload (j := 4) rfl dL_law_885 ?_
      refine r_iconst (v := 4) (by decide) dL_law_887 ?_
      refine r_iadd (x := v4) (y := 4) dL_law_888 ?_
      obtain ⟨N_x170, f_x170, ha_x170, hi_x170, hf⟩ := hf
      refine r_sald ha_x170 hi_x170 dL_law_889 ?_
      generalize f_x170 ((v4 + 4) : Int32).toNatClampNeg = x170 at hf ⊢
      try unfold C_X11_rows at hf
      obtain ⟨⟨fs_r172, ha_r172⟩, hf⟩ := hf
      refine r_invVI (t := 11) (As := [aI x167, aI x168, aI x169, aI x170]) (dz := d) (mz := 0) (sz := 0) rfl wd_5_175 wd_5_176 wd_5_177 cf_X11_rows (Nat.le_refl _) (Nat.zero_le _) (Nat.zero_le _) (cat_ok (Nat.le_of_ble_eq_true rfl)) rfl rfl ha_r172 dL_law_890 hf (fun r172 σ171 hk => ?_)
      replace hf := hk
      clear hk
      refine r_aload_n (j := 2) rfl rfl dL_law_893 ?_
      refine r_aload_n (j := 0) rfl rfl dL_law_894 ?_
      refine r_iload (j := 4) rfl dL_law_895 ?_
      refine r_iconst (v := 1) (by decide) dL_law_897 ?_
      refine r_iadd (x := v4) (y := 1) dL_law_898 ?_
      obtain ⟨N_x173, f_x173, ha_x173, hi_x173, hf⟩ := hf
      refine r_sald ha_x173 hi_x173 dL_law_899 ?_
      generalize f_x173 ((v4 + 1) : Int32).toNatClampNeg = x173 at hf ⊢
      refine r_aload_n (j := 0) rfl rfl dL_law_900 ?_
      refine r_iload (j := 4) rfl dL_law_901 ?_
      refine r_iconst (v := 2) (by decide) dL_law_903 ?_
      refine r_iadd (x := v4) (y := 2) dL_law_904 ?_
      obtain ⟨N_x174, f_x174, ha_x174, hi_x174, hf⟩ := hf
      refine r_sald ha_x174 hi_x174 dL_law_905 ?_
      generalize f_x174 ((v4 + 2) : Int32).toNatClampNeg = x174 at hf ⊢
      refine r_aload_n (j := 0) rfl rfl dL_law_906 ?_
      refine r_iload (j := 4) rfl dL_law_907 ?_
      refine r_iconst (v := 3) (by decide) dL_law_909 ?_
      refine r_iadd (x := v4) (y := 3) dL_law_910 ?_
      obtain ⟨N_x175, f_x175, ha_x175, hi_x175, hf⟩ := hf
      refine r_sald ha_x175 hi_x175 dL_law_911 ?_
      generalize f_x175 ((v4 + 3) : Int32).toNatClampNeg = x175 at hf ⊢
      refine r_aload_n (j := 0) rfl rfl dL_law_912 ?_
      refine r_iload (j := 4) rfl dL_law_913 ?_
      refine r_iconst (v := 4) (by decide) dL_law_915 ?_
      refine r_iadd (x := v4) (y := 4) dL_law_916 ?_
      obtain ⟨N_x176, f_x176, ha_x176, hi_x176, hf⟩ := hf
      refine r_sald ha_x176 hi_x176 dL_law_917 ?_
      generalize f_x176 ((v4 + 4) : Int32).toNatClampNeg = x176 at hf ⊢
      try unfold C_X12_rows at hf
      obtain ⟨⟨fs_r178, ha_r178⟩, hf⟩ := hf
      refine r_invVI (t := 12) (As := [aI x173, aI x174, aI x175, aI x176]) (dz := d) (mz := 0) (sz := 0) rfl wd_8_205 wd_8_206 wd_8_207 cf_X12_rows (Nat.le_refl _) (Nat.zero_le _) (Nat.zero_le _) (cat_ok (Nat.le_of_ble_eq_true rfl)) rfl rfl ha_r178 dL_law_918 hf (fun r178 σ177 hk => ?_)
      replace hf := hk
      clear hk
      refine r_icmpeq (x := r172) (y := r178) (tgt := 1385) (by decide) dL_law_921 (fun hc => ?_) (fun hc => ?_)
      · replace hf := hf.1 hc
        exact r_sub [0, 1, 2, 3, 4] rfl (b_L_law_1385 hX23 hf)
      · replace hf := hf.2 hc
        refine r_iconst (v := 0) (by decide) dL_law_924 ?_
        exact r_lawret (b := false) dL_law_925 hf
    by_cases hc29 : ((x8 &&& 63) : Int32) = 29
    · replace hf := hf.2.2.2.2.2.2.2.2.2.2.2.2.2.2.2.2.2.2.2.2.2.2.2.2.2.2.2.2.2.1 hc29
      refine r_tabIn (tgt := 926) (off := 886) (by rw [hc29]; decide) (by rw [hc29]; decide) (by rw [hc29]; decide) (by decide) dL_law_40 ?_
      refine r_aload_n (j := 1) rfl rfl dL_law_926 ?_
      refine r_aload_n (j := 0) rfl rfl dL_law_927 ?_
      refine r_iload (j := 4) rfl dL_law_928 ?_
      refine r_iconst (v := 1) (by decide) dL_law_930 ?_
      refine r_iadd (x := v4) (y := 1) dL_law_931 ?_
      obtain ⟨N_x179, f_x179, ha_x179, hi_x179, hf⟩ := hf
      refine r_sald ha_x179 hi_x179 dL_law_932 ?_
      generalize f_x179 ((v4 + 1) : Int32).toNatClampNeg = x179 at hf ⊢
      refine r_aload_n (j := 0) rfl rfl dL_law_933 ?_
      refine r_iload (j := 4) rfl dL_law_934 ?_
      refine r_iconst (v := 2) (by decide) dL_law_936 ?_
      refine r_iadd (x := v4) (y := 2) dL_law_937 ?_
      obtain ⟨N_x180, f_x180, ha_x180, hi_x180, hf⟩ := hf
      refine r_sald ha_x180 hi_x180 dL_law_938 ?_
      generalize f_x180 ((v4 + 2) : Int32).toNatClampNeg = x180 at hf ⊢
      refine r_aload_n (j := 0) rfl rfl dL_law_939 ?_
      refine r_iload (j := 4) rfl dL_law_940 ?_
      refine r_iconst (v := 3) (by decide) dL_law_942 ?_
      refine r_iadd (x := v4) (y := 3) dL_law_943 ?_
      obtain ⟨N_x181, f_x181, ha_x181, hi_x181, hf⟩ := hf
      refine r_sald ha_x181 hi_x181 dL_law_944 ?_
      generalize f_x181 ((v4 + 3) : Int32).toNatClampNeg = x181 at hf ⊢
      try unfold C_X11_rowLay at hf
      obtain ⟨⟨fs_r183, ha_r183⟩, hf⟩ := hf
      refine r_invVI (t := 11) (As := [aI x179, aI x180, aI x181]) (dz := d) (mz := 0) (sz := 0) rfl wd_5_179 wd_5_180 wd_5_181 cf_X11_rowLay (Nat.le_refl _) (Nat.zero_le _) (Nat.zero_le _) (cat_ok (Nat.le_of_ble_eq_true rfl)) rfl rfl ha_r183 dL_law_945 hf (fun r183 σ182 hk => ?_)
      replace hf := hk
      clear hk
      refine r_aload_n (j := 2) rfl rfl dL_law_948 ?_
      refine r_aload_n (j := 0) rfl rfl dL_law_949 ?_
      refine r_iload (j := 4) rfl dL_law_950 ?_
      refine r_iconst (v := 1) (by decide) dL_law_952 ?_
      refine r_iadd (x := v4) (y := 1) dL_law_953 ?_
      obtain ⟨N_x184, f_x184, ha_x184, hi_x184, hf⟩ := hf
      refine r_sald ha_x184 hi_x184 dL_law_954 ?_
      generalize f_x184 ((v4 + 1) : Int32).toNatClampNeg = x184 at hf ⊢
      refine r_aload_n (j := 0) rfl rfl dL_law_955 ?_
      refine r_iload (j := 4) rfl dL_law_956 ?_
      refine r_iconst (v := 2) (by decide) dL_law_958 ?_
      refine r_iadd (x := v4) (y := 2) dL_law_959 ?_
      obtain ⟨N_x185, f_x185, ha_x185, hi_x185, hf⟩ := hf
      refine r_sald ha_x185 hi_x185 dL_law_960 ?_
      generalize f_x185 ((v4 + 2) : Int32).toNatClampNeg = x185 at hf ⊢
      refine r_aload_n (j := 0) rfl rfl dL_law_961 ?_
      refine r_iload (j := 4) rfl dL_law_962 ?_
      refine r_iconst (v := 3) (by decide) dL_law_964 ?_
      refine r_iadd (x := v4) (y := 3) dL_law_965 ?_
      obtain ⟨N_x186, f_x186, ha_x186, hi_x186, hf⟩ := hf
      refine r_sald ha_x186 hi_x186 dL_law_966 ?_
      generalize f_x186 ((v4 + 3) : Int32).toNatClampNeg = x186 at hf ⊢
      try unfold C_X12_rowLay at hf
      obtain ⟨⟨fs_r188, ha_r188⟩, hf⟩ := hf
      refine r_invVI (t := 12) (As := [aI x184, aI x185, aI x186]) (dz := d) (mz := 0) (sz := 0) rfl wd_8_209 wd_8_210 wd_8_211 cf_X12_rowLay (Nat.le_refl _) (Nat.zero_le _) (Nat.zero_le _) (cat_ok (Nat.le_of_ble_eq_true rfl)) rfl rfl ha_r188 dL_law_967 hf (fun r188 σ187 hk => ?_)
      replace hf := hk
      clear hk
      refine r_icmpeq (x := r183) (y := r188) (tgt := 1385) (by decide) dL_law_970 (fun hc => ?_) (fun hc => ?_)
      · replace hf := hf.1 hc
        exact r_sub [0, 1, 2, 3, 4] rfl (b_L_law_1385 hX23 hf)
      · replace hf := hf.2 hc
        refine r_iconst (v := 0) (by decide) dL_law_973 ?_
        exact r_lawret (b := false) dL_law_974 hf
    by_cases hc30 : ((x8 &&& 63) : Int32) = 30
    · replace hf := hf.2.2.2.2.2.2.2.2.2.2.2.2.2.2.2.2.2.2.2.2.2.2.2.2.2.2.2.2.2.2.1 hc30
      refine r_tabIn (tgt := 975) (off := 935) (by rw [hc30]; decide) (by rw [hc30]; decide) (by rw [hc30]; decide) (by decide) dL_law_40 ?_
      refine r_aload_n (j := 1) rfl rfl dL_law_975 ?_
      refine r_aload_n (j := 0) rfl rfl dL_law_976 ?_
      refine r_iload (j := 4) rfl dL_law_977 ?_
      refine r_iconst (v := 1) (by decide) dL_law_979 ?_
      refine r_iadd (x := v4) (y := 1) dL_law_980 ?_
      obtain ⟨N_x189, f_x189, ha_x189, hi_x189, hf⟩ := hf
      refine r_sald ha_x189 hi_x189 dL_law_981 ?_
      generalize f_x189 ((v4 + 1) : Int32).toNatClampNeg = x189 at hf ⊢
      refine r_aload_n (j := 0) rfl rfl dL_law_982 ?_
      refine r_iload (j := 4) rfl dL_law_983 ?_
      refine r_iconst (v := 2) (by decide) dL_law_985 ?_
      refine r_iadd (x := v4) (y := 2) dL_law_986 ?_
      obtain ⟨N_x190, f_x190, ha_x190, hi_x190, hf⟩ := hf
      refine r_sald ha_x190 hi_x190 dL_law_987 ?_
      generalize f_x190 ((v4 + 2) : Int32).toNatClampNeg = x190 at hf ⊢
      refine r_ifeq (x := x190) (tgt := 995) (by decide) dL_law_988 (fun hc => ?_) (fun hc => ?_)
      · replace hf := hf.1 hc
        refine r_iconst (v := 0) (by decide) dL_law_995 ?_
        exact r_sub [0, 1, 2, 3, 4] rfl (b_L_law_996 hX23 hf)
      · replace hf := hf.2 hc
        refine r_iconst (v := 1) (by decide) dL_law_991 ?_
        refine r_goto (tgt := 996) (by decide) dL_law_992 ?_
        exact r_sub [0, 1, 2, 3, 4] rfl (b_L_law_996 hX23 hf)
    by_cases hc31 : ((x8 &&& 63) : Int32) = 31
    · replace hf := hf.2.2.2.2.2.2.2.2.2.2.2.2.2.2.2.2.2.2.2.2.2.2.2.2.2.2.2.2.2.2.2.1 hc31
      refine r_tabIn (tgt := 1028) (off := 988) (by rw [hc31]; decide) (by rw [hc31]; decide) (by rw [hc31]; decide) (by decide) dL_law_40 ?_
      refine r_aload_n (j := 1) rfl rfl dL_law_1028 ?_
      refine r_aload_n (j := 0) rfl rfl dL_law_1029 ?_
      refine r_iload (j := 4) rfl dL_law_1030 ?_
      refine r_iconst (v := 1) (by decide) dL_law_1032 ?_
      refine r_iadd (x := v4) (y := 1) dL_law_1033 ?_
      obtain ⟨N_x191, f_x191, ha_x191, hi_x191, hf⟩ := hf
      refine r_sald ha_x191 hi_x191 dL_law_1034 ?_
      generalize f_x191 ((v4 + 1) : Int32).toNatClampNeg = x191 at hf ⊢
      try unfold C_X11_would at hf
      obtain ⟨⟨fs_r193, ha_r193⟩, hf⟩ := hf
      refine r_invVI (t := 11) (As := [aI x191]) (dz := d) (mz := 0) (sz := 0) rfl wd_5_200 wd_5_201 wd_5_202 cf_X11_would (Nat.le_refl _) (Nat.zero_le _) (Nat.zero_le _) (cat_ok (Nat.le_of_ble_eq_true rfl)) rfl rfl ha_r193 dL_law_1035 hf (fun r193 σ192 hk => ?_)
      replace hf := hk
      clear hk
      refine r_aload_n (j := 2) rfl rfl dL_law_1038 ?_
      refine r_aload_n (j := 0) rfl rfl dL_law_1039 ?_
      refine r_iload (j := 4) rfl dL_law_1040 ?_
      refine r_iconst (v := 1) (by decide) dL_law_1042 ?_
      refine r_iadd (x := v4) (y := 1) dL_law_1043 ?_
      obtain ⟨N_x194, f_x194, ha_x194, hi_x194, hf⟩ := hf
      refine r_sald ha_x194 hi_x194 dL_law_1044 ?_
      generalize f_x194 ((v4 + 1) : Int32).toNatClampNeg = x194 at hf ⊢
      try unfold C_X12_would at hf
      obtain ⟨⟨fs_r196, ha_r196⟩, hf⟩ := hf
      refine r_invVI (t := 12) (As := [aI x194]) (dz := d) (mz := 0) (sz := 0) rfl wd_8_217 wd_8_218 wd_8_219 cf_X12_would (Nat.le_refl _) (Nat.zero_le _) (Nat.zero_le _) (cat_ok (Nat.le_of_ble_eq_true rfl)) rfl rfl ha_r196 dL_law_1045 hf (fun r196 σ195 hk => ?_)
      replace hf := hk
      clear hk
      refine r_icmpeq (x := r193) (y := r196) (tgt := 1385) (by decide) dL_law_1048 (fun hc => ?_) (fun hc => ?_)
      · replace hf := hf.1 hc
        exact r_sub [0, 1, 2, 3, 4] rfl (b_L_law_1385 hX23 hf)
      · replace hf := hf.2 hc
        refine r_iconst (v := 0) (by decide) dL_law_1051 ?_
        exact r_lawret (b := false) dL_law_1052 hf
    by_cases hc32 : ((x8 &&& 63) : Int32) = 32
    · replace hf := hf.2.2.2.2.2.2.2.2.2.2.2.2.2.2.2.2.2.2.2.2.2.2.2.2.2.2.2.2.2.2.2.2.1 hc32
      refine r_tabIn (tgt := 1053) (off := 1013) (by rw [hc32]; decide) (by rw [hc32]; decide) (by rw [hc32]; decide) (by decide) dL_law_40 ?_
      refine r_aload_n (j := 1) rfl rfl dL_law_1053 ?_
      refine r_aload_n (j := 0) rfl rfl dL_law_1054 ?_
      refine r_iload (j := 4) rfl dL_law_1055 ?_
      refine r_iconst (v := 1) (by decide) dL_law_1057 ?_
      refine r_iadd (x := v4) (y := 1) dL_law_1058 ?_
      obtain ⟨N_x197, f_x197, ha_x197, hi_x197, hf⟩ := hf
      refine r_sald ha_x197 hi_x197 dL_law_1059 ?_
      generalize f_x197 ((v4 + 1) : Int32).toNatClampNeg = x197 at hf ⊢
      refine r_aload_n (j := 0) rfl rfl dL_law_1060 ?_
      refine r_iload (j := 4) rfl dL_law_1061 ?_
      refine r_iconst (v := 2) (by decide) dL_law_1063 ?_
      refine r_iadd (x := v4) (y := 2) dL_law_1064 ?_
      obtain ⟨N_x198, f_x198, ha_x198, hi_x198, hf⟩ := hf
      refine r_sald ha_x198 hi_x198 dL_law_1065 ?_
      generalize f_x198 ((v4 + 2) : Int32).toNatClampNeg = x198 at hf ⊢
      try unfold C_X11_match at hf
      obtain ⟨⟨fs_r200, ha_r200⟩, hf⟩ := hf
      refine r_invVI (t := 11) (As := [aI x197, aI x198]) (dz := d) (mz := 0) (sz := 0) rfl wd_6_6 wd_6_7 wd_6_8 cf_X11_match (Nat.le_refl _) (Nat.zero_le _) (Nat.zero_le _) (cat_ok (Nat.le_of_ble_eq_true rfl)) rfl rfl ha_r200 dL_law_1066 hf (fun r200 σ199 hk => ?_)
      replace hf := hk
      clear hk
      refine r_aload_n (j := 2) rfl rfl dL_law_1069 ?_
      refine r_aload_n (j := 0) rfl rfl dL_law_1070 ?_
      refine r_iload (j := 4) rfl dL_law_1071 ?_
      refine r_iconst (v := 1) (by decide) dL_law_1073 ?_
      refine r_iadd (x := v4) (y := 1) dL_law_1074 ?_
      obtain ⟨N_x201, f_x201, ha_x201, hi_x201, hf⟩ := hf
      refine r_sald ha_x201 hi_x201 dL_law_1075 ?_
      generalize f_x201 ((v4 + 1) : Int32).toNatClampNeg = x201 at hf ⊢
      refine r_aload_n (j := 0) rfl rfl dL_law_1076 ?_
      refine r_iload (j := 4) rfl dL_law_1077 ?_
      refine r_iconst (v := 2) (by decide) dL_law_1079 ?_
      refine r_iadd (x := v4) (y := 2) dL_law_1080 ?_
      obtain ⟨N_x202, f_x202, ha_x202, hi_x202, hf⟩ := hf
      refine r_sald ha_x202 hi_x202 dL_law_1081 ?_
      generalize f_x202 ((v4 + 2) : Int32).toNatClampNeg = x202 at hf ⊢
      try unfold C_X12_match at hf
      obtain ⟨⟨fs_r204, ha_r204⟩, hf⟩ := hf
      refine r_invVI (t := 12) (As := [aI x201, aI x202]) (dz := d) (mz := 0) (sz := 0) rfl wd_8_234 wd_8_235 wd_8_236 cf_X12_match (Nat.le_refl _) (Nat.zero_le _) (Nat.zero_le _) (cat_ok (Nat.le_of_ble_eq_true rfl)) rfl rfl ha_r204 dL_law_1082 hf (fun r204 σ203 hk => ?_)
      replace hf := hk
      clear hk
      refine r_icmpeq (x := r200) (y := r204) (tgt := 1385) (by decide) dL_law_1085 (fun hc => ?_) (fun hc => ?_)
      · replace hf := hf.1 hc
        exact r_sub [0, 1, 2, 3, 4] rfl (b_L_law_1385 hX23 hf)
      · replace hf := hf.2 hc
        refine r_iconst (v := 0) (by decide) dL_law_1088 ?_
        exact r_lawret (b := false) dL_law_1089 hf
    by_cases hc33 : ((x8 &&& 63) : Int32) = 33
    · replace hf := hf.2.2.2.2.2.2.2.2.2.2.2.2.2.2.2.2.2.2.2.2.2.2.2.2.2.2.2.2.2.2.2.2.2.1 hc33
      refine r_tabIn (tgt := 1090) (off := 1050) (by rw [hc33]; decide) (by rw [hc33]; decide) (by rw [hc33]; decide) (by decide) dL_law_40 ?_
      refine r_aload_n (j := 1) rfl rfl dL_law_1090 ?_
      refine r_aload_n (j := 0) rfl rfl dL_law_1091 ?_
      refine r_iload (j := 4) rfl dL_law_1092 ?_
      refine r_iconst (v := 1) (by decide) dL_law_1094 ?_
      refine r_iadd (x := v4) (y := 1) dL_law_1095 ?_
      obtain ⟨N_x205, f_x205, ha_x205, hi_x205, hf⟩ := hf
      refine r_sald ha_x205 hi_x205 dL_law_1096 ?_
      generalize f_x205 ((v4 + 1) : Int32).toNatClampNeg = x205 at hf ⊢
      refine r_aload_n (j := 0) rfl rfl dL_law_1097 ?_
      refine r_iload (j := 4) rfl dL_law_1098 ?_
      refine r_iconst (v := 2) (by decide) dL_law_1100 ?_
      refine r_iadd (x := v4) (y := 2) dL_law_1101 ?_
      obtain ⟨N_x206, f_x206, ha_x206, hi_x206, hf⟩ := hf
      refine r_sald ha_x206 hi_x206 dL_law_1102 ?_
      generalize f_x206 ((v4 + 2) : Int32).toNatClampNeg = x206 at hf ⊢
      try unfold C_X11_matchLong at hf
      obtain ⟨⟨fs_r208, ha_r208⟩, hf⟩ := hf
      refine r_invVI (t := 11) (As := [aI x205, aI x206]) (dz := d) (mz := 0) (sz := 0) rfl wd_6_19 wd_6_20 wd_6_21 cf_X11_matchLong (Nat.le_refl _) (Nat.zero_le _) (Nat.zero_le _) (cat_ok (Nat.le_of_ble_eq_true rfl)) rfl rfl ha_r208 dL_law_1103 hf (fun r208 σ207 hk => ?_)
      replace hf := hk
      clear hk
      refine r_aload_n (j := 2) rfl rfl dL_law_1106 ?_
      refine r_aload_n (j := 0) rfl rfl dL_law_1107 ?_
      refine r_iload (j := 4) rfl dL_law_1108 ?_
      refine r_iconst (v := 1) (by decide) dL_law_1110 ?_
      refine r_iadd (x := v4) (y := 1) dL_law_1111 ?_
      obtain ⟨N_x209, f_x209, ha_x209, hi_x209, hf⟩ := hf
      refine r_sald ha_x209 hi_x209 dL_law_1112 ?_
      generalize f_x209 ((v4 + 1) : Int32).toNatClampNeg = x209 at hf ⊢
      refine r_aload_n (j := 0) rfl rfl dL_law_1113 ?_
      refine r_iload (j := 4) rfl dL_law_1114 ?_
      refine r_iconst (v := 2) (by decide) dL_law_1116 ?_
      refine r_iadd (x := v4) (y := 2) dL_law_1117 ?_
      obtain ⟨N_x210, f_x210, ha_x210, hi_x210, hf⟩ := hf
      refine r_sald ha_x210 hi_x210 dL_law_1118 ?_
      generalize f_x210 ((v4 + 2) : Int32).toNatClampNeg = x210 at hf ⊢
      try unfold C_X12_matchLong at hf
      obtain ⟨⟨fs_r212, ha_r212⟩, hf⟩ := hf
      refine r_invVI (t := 12) (As := [aI x209, aI x210]) (dz := d) (mz := 0) (sz := 0) rfl wd_9_6 wd_9_7 wd_9_8 cf_X12_matchLong (Nat.le_refl _) (Nat.zero_le _) (Nat.zero_le _) (cat_ok (Nat.le_of_ble_eq_true rfl)) rfl rfl ha_r212 dL_law_1119 hf (fun r212 σ211 hk => ?_)
      replace hf := hk
      clear hk
      refine r_icmpeq (x := r208) (y := r212) (tgt := 1385) (by decide) dL_law_1122 (fun hc => ?_) (fun hc => ?_)
      · replace hf := hf.1 hc
        exact r_sub [0, 1, 2, 3, 4] rfl (b_L_law_1385 hX23 hf)
      · replace hf := hf.2 hc
        refine r_iconst (v := 0) (by decide) dL_law_1125 ?_
        exact r_lawret (b := false) dL_law_1126 hf
    by_cases hc34 : ((x8 &&& 63) : Int32) = 34
    · replace hf := hf.2.2.2.2.2.2.2.2.2.2.2.2.2.2.2.2.2.2.2.2.2.2.2.2.2.2.2.2.2.2.2.2.2.2.1 hc34
      refine r_tabIn (tgt := 1127) (off := 1087) (by rw [hc34]; decide) (by rw [hc34]; decide) (by rw [hc34]; decide) (by decide) dL_law_40 ?_
      refine r_aload_n (j := 1) rfl rfl dL_law_1127 ?_
      refine r_aload_n (j := 0) rfl rfl dL_law_1128 ?_
      refine r_iload (j := 4) rfl dL_law_1129 ?_
      refine r_iconst (v := 1) (by decide) dL_law_1131 ?_
      refine r_iadd (x := v4) (y := 1) dL_law_1132 ?_
      obtain ⟨N_x213, f_x213, ha_x213, hi_x213, hf⟩ := hf
      refine r_sald ha_x213 hi_x213 dL_law_1133 ?_
      generalize f_x213 ((v4 + 1) : Int32).toNatClampNeg = x213 at hf ⊢
      try unfold C_X11_beats at hf
      obtain ⟨⟨fs_r215, ha_r215⟩, hf⟩ := hf
      refine r_invVI (t := 11) (As := [aI x213]) (dz := d) (mz := 0) (sz := 0) rfl wd_6_23 wd_6_24 wd_6_25 cf_X11_beats (Nat.le_refl _) (Nat.zero_le _) (Nat.zero_le _) (cat_ok (Nat.le_of_ble_eq_true rfl)) rfl rfl ha_r215 dL_law_1134 hf (fun r215 σ214 hk => ?_)
      replace hf := hk
      clear hk
      refine r_aload_n (j := 2) rfl rfl dL_law_1137 ?_
      refine r_aload_n (j := 0) rfl rfl dL_law_1138 ?_
      refine r_iload (j := 4) rfl dL_law_1139 ?_
      refine r_iconst (v := 1) (by decide) dL_law_1141 ?_
      refine r_iadd (x := v4) (y := 1) dL_law_1142 ?_
      obtain ⟨N_x216, f_x216, ha_x216, hi_x216, hf⟩ := hf
      refine r_sald ha_x216 hi_x216 dL_law_1143 ?_
      generalize f_x216 ((v4 + 1) : Int32).toNatClampNeg = x216 at hf ⊢
      try unfold C_X12_beats at hf
      obtain ⟨⟨fs_r218, ha_r218⟩, hf⟩ := hf
      refine r_invVI (t := 12) (As := [aI x216]) (dz := d) (mz := 0) (sz := 0) rfl wd_9_2 wd_9_3 wd_9_4 cf_X12_beats (Nat.le_refl _) (Nat.zero_le _) (Nat.zero_le _) (cat_ok (Nat.le_of_ble_eq_true rfl)) rfl rfl ha_r218 dL_law_1144 hf (fun r218 σ217 hk => ?_)
      replace hf := hk
      clear hk
      refine r_icmpeq (x := r215) (y := r218) (tgt := 1385) (by decide) dL_law_1147 (fun hc => ?_) (fun hc => ?_)
      · replace hf := hf.1 hc
        exact r_sub [0, 1, 2, 3, 4] rfl (b_L_law_1385 hX23 hf)
      · replace hf := hf.2 hc
        refine r_iconst (v := 0) (by decide) dL_law_1150 ?_
        exact r_lawret (b := false) dL_law_1151 hf
    by_cases hc35 : ((x8 &&& 63) : Int32) = 35
    · replace hf := hf.2.2.2.2.2.2.2.2.2.2.2.2.2.2.2.2.2.2.2.2.2.2.2.2.2.2.2.2.2.2.2.2.2.2.2.1 hc35
      refine r_tabIn (tgt := 1152) (off := 1112) (by rw [hc35]; decide) (by rw [hc35]; decide) (by rw [hc35]; decide) (by decide) dL_law_40 ?_
      refine r_aload_n (j := 1) rfl rfl dL_law_1152 ?_
      refine r_aload_n (j := 0) rfl rfl dL_law_1153 ?_
      refine r_iload (j := 4) rfl dL_law_1154 ?_
      refine r_iconst (v := 1) (by decide) dL_law_1156 ?_
      refine r_iadd (x := v4) (y := 1) dL_law_1157 ?_
      obtain ⟨N_x219, f_x219, ha_x219, hi_x219, hf⟩ := hf
      refine r_sald ha_x219 hi_x219 dL_law_1158 ?_
      generalize f_x219 ((v4 + 1) : Int32).toNatClampNeg = x219 at hf ⊢
      try unfold C_X11_puts at hf
      obtain ⟨⟨fs_r221, ha_r221⟩, hf⟩ := hf
      refine r_invVZ (t := 11) (As := [aI x219]) (dz := d) (mz := 0) (sz := 0) rfl wd_6_27 wd_6_28 wd_6_29 cf_X11_puts (Nat.le_refl _) (Nat.zero_le _) (Nat.zero_le _) (cat_ok (Nat.le_of_ble_eq_true rfl)) rfl rfl ha_r221 dL_law_1159 hf (fun r221 σ220 hk => ?_)
      replace hf := hk
      clear hk
      refine r_aload_n (j := 2) rfl rfl dL_law_1162 ?_
      refine r_aload_n (j := 0) rfl rfl dL_law_1163 ?_
      refine r_iload (j := 4) rfl dL_law_1164 ?_
      refine r_iconst (v := 1) (by decide) dL_law_1166 ?_
      refine r_iadd (x := v4) (y := 1) dL_law_1167 ?_
      obtain ⟨N_x222, f_x222, ha_x222, hi_x222, hf⟩ := hf
      refine r_sald ha_x222 hi_x222 dL_law_1168 ?_
      generalize f_x222 ((v4 + 1) : Int32).toNatClampNeg = x222 at hf ⊢
      try unfold C_X12_puts at hf
      obtain ⟨⟨fs_r224, ha_r224⟩, hf⟩ := hf
      refine r_invVZ (t := 12) (As := [aI x222]) (dz := d) (mz := 0) (sz := 0) rfl wd_9_10 wd_9_11 wd_9_12 cf_X12_puts (Nat.le_refl _) (Nat.zero_le _) (Nat.zero_le _) (cat_ok (Nat.le_of_ble_eq_true rfl)) rfl rfl ha_r224 dL_law_1169 hf (fun r224 σ223 hk => ?_)
      replace hf := hk
      clear hk
      refine r_icmpeq (x := (bi r221)) (y := (bi r224)) (tgt := 1385) (by decide) dL_law_1172 (fun hc => ?_) (fun hc => ?_)
      · replace hf := hf.1 hc
        exact r_sub [0, 1, 2, 3, 4] rfl (b_L_law_1385 hX23 hf)
      · replace hf := hf.2 hc
        refine r_iconst (v := 0) (by decide) dL_law_1175 ?_
        exact r_lawret (b := false) dL_law_1176 hf
    by_cases hc36 : ((x8 &&& 63) : Int32) = 36
    · replace hf := hf.2.2.2.2.2.2.2.2.2.2.2.2.2.2.2.2.2.2.2.2.2.2.2.2.2.2.2.2.2.2.2.2.2.2.2.2.1 hc36
      refine r_tabIn (tgt := 1177) (off := 1137) (by rw [hc36]; decide) (by rw [hc36]; decide) (by rw [hc36]; decide) (by decide) dL_law_40 ?_
      refine r_aload_n (j := 1) rfl rfl dL_law_1177 ?_
      try unfold C_X11_takes at hf
      obtain ⟨⟨fs_r226, ha_r226⟩, hf⟩ := hf
      refine r_invVI (t := 11) (As := []) (dz := d) (mz := 0) (sz := 0) rfl wd_6_46 wd_6_47 wd_6_48 cf_X11_takes (Nat.le_refl _) (Nat.zero_le _) (Nat.zero_le _) (cat_ok (Nat.le_of_ble_eq_true rfl)) rfl rfl ha_r226 dL_law_1178 hf (fun r226 σ225 hk => ?_)
      replace hf := hk
      clear hk
      refine r_aload_n (j := 2) rfl rfl dL_law_1181 ?_
      try unfold C_X12_takes at hf
      obtain ⟨⟨fs_r228, ha_r228⟩, hf⟩ := hf
      refine r_invVI (t := 12) (As := []) (dz := d) (mz := 0) (sz := 0) rfl wd_9_26 wd_9_27 wd_9_28 cf_X12_takes (Nat.le_refl _) (Nat.zero_le _) (Nat.zero_le _) (cat_ok (Nat.le_of_ble_eq_true rfl)) rfl rfl ha_r228 dL_law_1182 hf (fun r228 σ227 hk => ?_)
      replace hf := hk
      clear hk
      refine r_icmpeq (x := r226) (y := r228) (tgt := 1385) (by decide) dL_law_1185 (fun hc => ?_) (fun hc => ?_)
      · replace hf := hf.1 hc
        exact r_sub [0, 1, 2, 3, 4] rfl (b_L_law_1385 hX23 hf)
      · replace hf := hf.2 hc
        refine r_iconst (v := 0) (by decide) dL_law_1188 ?_
        exact r_lawret (b := false) dL_law_1189 hf
    by_cases hc37 : ((x8 &&& 63) : Int32) = 37
    · replace hf := hf.2.2.2.2.2.2.2.2.2.2.2.2.2.2.2.2.2.2.2.2.2.2.2.2.2.2.2.2.2.2.2.2.2.2.2.2.2.1 hc37
      refine r_tabIn (tgt := 1190) (off := 1150) (by rw [hc37]; decide) (by rw [hc37]; decide) (by rw [hc37]; decide) (by decide) dL_law_40 ?_
      refine r_aload_n (j := 1) rfl rfl dL_law_1190 ?_
      refine r_aload_n (j := 0) rfl rfl dL_law_1191 ?_
      refine r_iload (j := 4) rfl dL_law_1192 ?_
      refine r_iconst (v := 1) (by decide) dL_law_1194 ?_
      refine r_iadd (x := v4) (y := 1) dL_law_1195 ?_
      obtain ⟨N_x229, f_x229, ha_x229, hi_x229, hf⟩ := hf
      refine r_sald ha_x229 hi_x229 dL_law_1196 ?_
      generalize f_x229 ((v4 + 1) : Int32).toNatClampNeg = x229 at hf ⊢
      try unfold C_X11_plays at hf
      obtain ⟨⟨fs_r231, ha_r231⟩, hf⟩ := hf
      refine r_invVI (t := 11) (As := [aI x229]) (dz := d) (mz := 0) (sz := 0) rfl wd_6_56 wd_6_57 wd_6_58 cf_X11_plays (Nat.le_refl _) (Nat.zero_le _) (Nat.zero_le _) (cat_ok (Nat.le_of_ble_eq_true rfl)) rfl rfl ha_r231 dL_law_1197 hf (fun r231 σ230 hk => ?_)
      replace hf := hk
      clear hk
      refine r_aload_n (j := 2) rfl rfl dL_law_1200 ?_
      refine r_aload_n (j := 0) rfl rfl dL_law_1201 ?_
      refine r_iload (j := 4) rfl dL_law_1202 ?_
      refine r_iconst (v := 1) (by decide) dL_law_1204 ?_
      refine r_iadd (x := v4) (y := 1) dL_law_1205 ?_
      obtain ⟨N_x232, f_x232, ha_x232, hi_x232, hf⟩ := hf
      refine r_sald ha_x232 hi_x232 dL_law_1206 ?_
      generalize f_x232 ((v4 + 1) : Int32).toNatClampNeg = x232 at hf ⊢
      try unfold C_X12_plays at hf
      obtain ⟨⟨fs_r234, ha_r234⟩, hf⟩ := hf
      refine r_invVI (t := 12) (As := [aI x232]) (dz := d) (mz := 0) (sz := 0) rfl wd_9_30 wd_9_31 wd_9_32 cf_X12_plays (Nat.le_refl _) (Nat.zero_le _) (Nat.zero_le _) (cat_ok (Nat.le_of_ble_eq_true rfl)) rfl rfl ha_r234 dL_law_1207 hf (fun r234 σ233 hk => ?_)
      replace hf := hk
      clear hk
      refine r_icmpeq (x := r231) (y := r234) (tgt := 1385) (by decide) dL_law_1210 (fun hc => ?_) (fun hc => ?_)
      · replace hf := hf.1 hc
        exact r_sub [0, 1, 2, 3, 4] rfl (b_L_law_1385 hX23 hf)
      · replace hf := hf.2 hc
        refine r_iconst (v := 0) (by decide) dL_law_1213 ?_
        exact r_lawret (b := false) dL_law_1214 hf
    by_cases hc38 : ((x8 &&& 63) : Int32) = 38
    · replace hf := hf.2.2.2.2.2.2.2.2.2.2.2.2.2.2.2.2.2.2.2.2.2.2.2.2.2.2.2.2.2.2.2.2.2.2.2.2.2.2.1 hc38
      refine r_tabIn (tgt := 1215) (off := 1175) (by rw [hc38]; decide) (by rw [hc38]; decide) (by rw [hc38]; decide) (by decide) dL_law_40 ?_
      refine r_aload_n (j := 1) rfl rfl dL_law_1215 ?_
      refine r_aload_n (j := 0) rfl rfl dL_law_1216 ?_
      refine r_iload (j := 4) rfl dL_law_1217 ?_
      refine r_iconst (v := 1) (by decide) dL_law_1219 ?_
      refine r_iadd (x := v4) (y := 1) dL_law_1220 ?_
      obtain ⟨N_x235, f_x235, ha_x235, hi_x235, hf⟩ := hf
      refine r_sald ha_x235 hi_x235 dL_law_1221 ?_
      generalize f_x235 ((v4 + 1) : Int32).toNatClampNeg = x235 at hf ⊢
      try unfold C_X11_seed at hf
      obtain ⟨⟨fs_r237, ha_r237⟩, hf⟩ := hf
      refine r_invVZ (t := 11) (As := [aI x235]) (dz := d) (mz := 0) (sz := 0) rfl wd_6_61 wd_6_62 wd_6_63 cf_X11_seed (Nat.le_refl _) (Nat.zero_le _) (Nat.zero_le _) (cat_ok (Nat.le_of_ble_eq_true rfl)) rfl rfl ha_r237 dL_law_1222 hf (fun r237 σ236 hk => ?_)
      replace hf := hk
      clear hk
      refine r_aload_n (j := 2) rfl rfl dL_law_1225 ?_
      refine r_aload_n (j := 0) rfl rfl dL_law_1226 ?_
      refine r_iload (j := 4) rfl dL_law_1227 ?_
      refine r_iconst (v := 1) (by decide) dL_law_1229 ?_
      refine r_iadd (x := v4) (y := 1) dL_law_1230 ?_
      obtain ⟨N_x238, f_x238, ha_x238, hi_x238, hf⟩ := hf
      refine r_sald ha_x238 hi_x238 dL_law_1231 ?_
      generalize f_x238 ((v4 + 1) : Int32).toNatClampNeg = x238 at hf ⊢
      try unfold C_X12_seed at hf
      obtain ⟨⟨fs_r240, ha_r240⟩, hf⟩ := hf
      refine r_invVZ (t := 12) (As := [aI x238]) (dz := d) (mz := 0) (sz := 0) rfl wd_9_34 wd_9_35 wd_9_36 cf_X12_seed (Nat.le_refl _) (Nat.zero_le _) (Nat.zero_le _) (cat_ok (Nat.le_of_ble_eq_true rfl)) rfl rfl ha_r240 dL_law_1232 hf (fun r240 σ239 hk => ?_)
      replace hf := hk
      clear hk
      refine r_icmpeq (x := (bi r237)) (y := (bi r240)) (tgt := 1385) (by decide) dL_law_1235 (fun hc => ?_) (fun hc => ?_)
      · replace hf := hf.1 hc
        exact r_sub [0, 1, 2, 3, 4] rfl (b_L_law_1385 hX23 hf)
      · replace hf := hf.2 hc
        refine r_iconst (v := 0) (by decide) dL_law_1238 ?_
        exact r_lawret (b := false) dL_law_1239 hf
    by_cases hc39 : ((x8 &&& 63) : Int32) = 39
    · replace hf := hf.2.2.2.2.2.2.2.2.2.2.2.2.2.2.2.2.2.2.2.2.2.2.2.2.2.2.2.2.2.2.2.2.2.2.2.2.2.2.2.1 hc39
      refine r_tabIn (tgt := 1240) (off := 1200) (by rw [hc39]; decide) (by rw [hc39]; decide) (by rw [hc39]; decide) (by decide) dL_law_40 ?_
      refine r_aload_n (j := 1) rfl rfl dL_law_1240 ?_
      try unfold C_X11_undo at hf
      obtain ⟨⟨fs_r242, ha_r242⟩, hf⟩ := hf
      refine r_invVZ (t := 11) (As := []) (dz := d) (mz := 0) (sz := 0) rfl wd_6_66 wd_6_67 wd_6_68 cf_X11_undo (Nat.le_refl _) (Nat.zero_le _) (Nat.zero_le _) (cat_ok (Nat.le_of_ble_eq_true rfl)) rfl rfl ha_r242 dL_law_1241 hf (fun r242 σ241 hk => ?_)
      replace hf := hk
      clear hk
      refine r_aload_n (j := 2) rfl rfl dL_law_1244 ?_
      try unfold C_X12_undo at hf
      obtain ⟨⟨fs_r244, ha_r244⟩, hf⟩ := hf
      refine r_invVZ (t := 12) (As := []) (dz := d) (mz := 0) (sz := 0) rfl wd_9_39 wd_9_40 wd_9_41 cf_X12_undo (Nat.le_refl _) (Nat.zero_le _) (Nat.zero_le _) (cat_ok (Nat.le_of_ble_eq_true rfl)) rfl rfl ha_r244 dL_law_1245 hf (fun r244 σ243 hk => ?_)
      replace hf := hk
      clear hk
      refine r_icmpeq (x := (bi r242)) (y := (bi r244)) (tgt := 1385) (by decide) dL_law_1248 (fun hc => ?_) (fun hc => ?_)
      · replace hf := hf.1 hc
        exact r_sub [0, 1, 2, 3, 4] rfl (b_L_law_1385 hX23 hf)
      · replace hf := hf.2 hc
        refine r_iconst (v := 0) (by decide) dL_law_1251 ?_
        exact r_lawret (b := false) dL_law_1252 hf
    by_cases hc40 : ((x8 &&& 63) : Int32) = 40
    · replace hf := hf.2.2.2.2.2.2.2.2.2.2.2.2.2.2.2.2.2.2.2.2.2.2.2.2.2.2.2.2.2.2.2.2.2.2.2.2.2.2.2.2.1 hc40
      refine r_tabIn (tgt := 1253) (off := 1213) (by rw [hc40]; decide) (by rw [hc40]; decide) (by rw [hc40]; decide) (by decide) dL_law_40 ?_
      refine r_aload_n (j := 1) rfl rfl dL_law_1253 ?_
      try unfold C_X11_image at hf
      obtain ⟨⟨fs_r246, ha_r246⟩, hf⟩ := hf
      refine r_invVI (t := 11) (As := []) (dz := d) (mz := 0) (sz := 0) rfl wd_6_74 wd_6_75 wd_6_76 cf_X11_image (Nat.le_refl _) (Nat.zero_le _) (Nat.zero_le _) (cat_ok (Nat.le_of_ble_eq_true rfl)) rfl rfl ha_r246 dL_law_1254 hf (fun r246 σ245 hk => ?_)
      replace hf := hk
      clear hk
      refine r_aload_n (j := 2) rfl rfl dL_law_1257 ?_
      try unfold C_X12_image at hf
      obtain ⟨⟨fs_r248, ha_r248⟩, hf⟩ := hf
      refine r_invVI (t := 12) (As := []) (dz := d) (mz := 0) (sz := 0) rfl wd_9_43 wd_9_44 wd_9_45 cf_X12_image (Nat.le_refl _) (Nat.zero_le _) (Nat.zero_le _) (cat_ok (Nat.le_of_ble_eq_true rfl)) rfl rfl ha_r248 dL_law_1258 hf (fun r248 σ247 hk => ?_)
      replace hf := hk
      clear hk
      refine r_icmpeq (x := r246) (y := r248) (tgt := 1385) (by decide) dL_law_1261 (fun hc => ?_) (fun hc => ?_)
      · replace hf := hf.1 hc
        exact r_sub [0, 1, 2, 3, 4] rfl (b_L_law_1385 hX23 hf)
      · replace hf := hf.2 hc
        refine r_iconst (v := 0) (by decide) dL_law_1264 ?_
        exact r_lawret (b := false) dL_law_1265 hf
    by_cases hc41 : ((x8 &&& 63) : Int32) = 41
    · replace hf := hf.2.2.2.2.2.2.2.2.2.2.2.2.2.2.2.2.2.2.2.2.2.2.2.2.2.2.2.2.2.2.2.2.2.2.2.2.2.2.2.2.2.1 hc41
      refine r_tabIn (tgt := 1266) (off := 1226) (by rw [hc41]; decide) (by rw [hc41]; decide) (by rw [hc41]; decide) (by decide) dL_law_40 ?_
      refine r_aload_n (j := 1) rfl rfl dL_law_1266 ?_
      refine r_aload_n (j := 0) rfl rfl dL_law_1267 ?_
      refine r_iload (j := 4) rfl dL_law_1268 ?_
      refine r_iconst (v := 1) (by decide) dL_law_1270 ?_
      refine r_iadd (x := v4) (y := 1) dL_law_1271 ?_
      obtain ⟨N_x249, f_x249, ha_x249, hi_x249, hf⟩ := hf
      refine r_sald ha_x249 hi_x249 dL_law_1272 ?_
      generalize f_x249 ((v4 + 1) : Int32).toNatClampNeg = x249 at hf ⊢
      try unfold C_X11_back at hf
      obtain ⟨⟨fs_r251, ha_r251⟩, hf⟩ := hf
      refine r_invVZ (t := 11) (As := [aI x249]) (dz := d) (mz := 0) (sz := 0) rfl wd_6_82 wd_6_83 wd_6_84 cf_X11_back (Nat.le_refl _) (Nat.zero_le _) (Nat.zero_le _) (cat_ok (Nat.le_of_ble_eq_true rfl)) rfl rfl ha_r251 dL_law_1273 hf (fun r251 σ250 hk => ?_)
      replace hf := hk
      clear hk
      refine r_aload_n (j := 2) rfl rfl dL_law_1276 ?_
      refine r_aload_n (j := 0) rfl rfl dL_law_1277 ?_
      refine r_iload (j := 4) rfl dL_law_1278 ?_
      refine r_iconst (v := 1) (by decide) dL_law_1280 ?_
      refine r_iadd (x := v4) (y := 1) dL_law_1281 ?_
      obtain ⟨N_x252, f_x252, ha_x252, hi_x252, hf⟩ := hf
      refine r_sald ha_x252 hi_x252 dL_law_1282 ?_
      generalize f_x252 ((v4 + 1) : Int32).toNatClampNeg = x252 at hf ⊢
      try unfold C_X12_back at hf
      obtain ⟨⟨fs_r254, ha_r254⟩, hf⟩ := hf
      refine r_invVZ (t := 12) (As := [aI x252]) (dz := d) (mz := 0) (sz := 0) rfl wd_9_47 wd_9_48 wd_9_49 cf_X12_back (Nat.le_refl _) (Nat.zero_le _) (Nat.zero_le _) (cat_ok (Nat.le_of_ble_eq_true rfl)) rfl rfl ha_r254 dL_law_1283 hf (fun r254 σ253 hk => ?_)
      replace hf := hk
      clear hk
      refine r_icmpeq (x := (bi r251)) (y := (bi r254)) (tgt := 1385) (by decide) dL_law_1286 (fun hc => ?_) (fun hc => ?_)
      · replace hf := hf.1 hc
        exact r_sub [0, 1, 2, 3, 4] rfl (b_L_law_1385 hX23 hf)
      · replace hf := hf.2 hc
        refine r_iconst (v := 0) (by decide) dL_law_1289 ?_
        exact r_lawret (b := false) dL_law_1290 hf
    by_cases hc42 : ((x8 &&& 63) : Int32) = 42
    · replace hf := hf.2.2.2.2.2.2.2.2.2.2.2.2.2.2.2.2.2.2.2.2.2.2.2.2.2.2.2.2.2.2.2.2.2.2.2.2.2.2.2.2.2.2.1 hc42
      refine r_tabIn (tgt := 1291) (off := 1251) (by rw [hc42]; decide) (by rw [hc42]; decide) (by rw [hc42]; decide) (by decide) dL_law_40 ?_
      refine r_aload_n (j := 1) rfl rfl dL_law_1291 ?_
      refine r_aload_n (j := 0) rfl rfl dL_law_1292 ?_
      refine r_iload (j := 4) rfl dL_law_1293 ?_
      refine r_iconst (v := 1) (by decide) dL_law_1295 ?_
      refine r_iadd (x := v4) (y := 1) dL_law_1296 ?_
      obtain ⟨N_x255, f_x255, ha_x255, hi_x255, hf⟩ := hf
      refine r_sald ha_x255 hi_x255 dL_law_1297 ?_
      generalize f_x255 ((v4 + 1) : Int32).toNatClampNeg = x255 at hf ⊢
      refine r_aload_n (j := 3) rfl rfl dL_law_1298 ?_
      obtain ⟨hbs, hbc, hf⟩ := hf
      refine r_led wd_6_109 (Nat.le_refl _) hbc hbs dL_law_1299 hf (fun r259 σ258 hk => ?_)
      replace hf := hk
      clear hk
      refine r_istore (L' := [(5, aI r259), (0, aR (some v0)), (1, aR (some v1)), (2, aR (some v2)), (3, aR (some v3)), (4, aI v4)]) rfl (Nat.le_of_ble_eq_true rfl) dL_law_1302 ?_
      refine r_aload_n (j := 3) rfl rfl dL_law_1304 ?_
      refine r_aload_n (j := 1) rfl rfl dL_law_1305 ?_
      refine r_iload (j := 5) rfl dL_law_1306 ?_
      refine r_iconst (v := 1) (by decide) dL_law_1308 ?_
      refine r_iadd (x := v4) (y := 1) dL_law_1309 ?_
      obtain ⟨N_x260, f_x260, ha_x260, hi_x260, hf⟩ := hf
      refine r_sald ha_x260 hi_x260 dL_law_1310 ?_
      generalize f_x260 ((v4 + 1) : Int32).toNatClampNeg = x260 at hf ⊢
      try unfold C_X12_led at hf
      obtain ⟨⟨fs_r262, ha_r262⟩, hf⟩ := hf
      refine r_invVI (t := 12) (As := [aI x260]) (dz := d) (mz := 0) (sz := 0) rfl wd_9_51 wd_9_52 wd_9_53 cf_X12_led (Nat.le_refl _) (Nat.zero_le _) (Nat.zero_le _) (cat_ok (Nat.le_of_ble_eq_true rfl)) rfl rfl ha_r262 dL_law_1311 hf (fun r262 σ261 hk => ?_)
      replace hf := hk
      clear hk
      refine r_istore (L' := [(6, aI r262), (5, aI r259), (0, aR (some v0)), (1, aR (some v1)), (2, aR (some v2)), (3, aR (some v3)), (4, aI v4)]) rfl (Nat.le_of_ble_eq_true rfl) dL_law_1314 ?_
      refine r_aload_n (j := 4) rfl rfl dL_law_1316 ?_
      try unfold C_X12_thrown at hf
      obtain ⟨⟨fs_r264, ha_r264⟩, hf⟩ := hf
      refine r_invVI (t := 12) (As := []) (dz := d) (mz := 0) (sz := 0) rfl wd_7_73 wd_7_74 wd_7_75 cf_X12_thrown (Nat.le_refl _) (Nat.zero_le _) (Nat.zero_le _) (cat_ok (Nat.le_of_ble_eq_true rfl)) rfl rfl ha_r264 dL_law_1317 hf (fun r264 σ263 hk => ?_)
      replace hf := hk
      clear hk
      refine r_iload (j := 1) rfl dL_law_1320 ?_
      refine r_icmpeq (x := r264) (y := r259) (tgt := 1327) (by decide) dL_law_1322 (fun hc => ?_) (fun hc => ?_)
      · replace hf := hf.1 hc
        refine r_iload (j := 1) rfl dL_law_1327 ?_
        refine r_ifne (x := r259) (tgt := 1344) (by decide) dL_law_1329 (fun hc => ?_) (fun hc => ?_)
        · replace hf := hf.1 hc
          exact r_sub [2, 3, 4, 5, 6] rfl (b_L_law_1344 hX23 hf)
        · replace hf := hf.2 hc
          refine r_aload_n (j := 5) rfl rfl dL_law_1332 ?_
          refine r_iconst (v := 0) (by decide) dL_law_1333 ?_
          obtain ⟨N_x265, f_x265, ha_x265, hi_x265, hf⟩ := hf
          refine r_lald ha_x265 hi_x265 dL_law_1334 ?_
          generalize f_x265 (0 : Int32).toNatClampNeg = x265 at hf ⊢
          refine r_iload (j := 0) rfl dL_law_1335 ?_
          refine r_i2l (x := r262) dL_law_1337 ?_
          refine r_lcmp (x := x265) (y := ((r262 : Int32).toInt64)) dL_law_1338 ?_
          refine r_ifeq (x := (lg_cmp x265 ((r262 : Int32).toInt64))) (tgt := 1344) (by decide) dL_law_1339 (fun hc => ?_) (fun hc => ?_)
          · replace hf := hf.1 hc
            exact r_sub [2, 3, 4, 5, 6] rfl (b_L_law_1344 hX23 hf)
          · replace hf := hf.2 hc
            refine r_iconst (v := 0) (by decide) dL_law_1342 ?_
            exact r_lawret (b := false) dL_law_1343 hf
      · replace hf := hf.2 hc
        refine r_iconst (v := 0) (by decide) dL_law_1325 ?_
        exact r_lawret (b := false) dL_law_1326 hf
    by_cases hc43 : ((x8 &&& 63) : Int32) = 43
    · replace hf := hf.2.2.2.2.2.2.2.2.2.2.2.2.2.2.2.2.2.2.2.2.2.2.2.2.2.2.2.2.2.2.2.2.2.2.2.2.2.2.2.2.2.2.2.1 hc43
      refine r_tabIn (tgt := 1347) (off := 1307) (by rw [hc43]; decide) (by rw [hc43]; decide) (by rw [hc43]; decide) (by decide) dL_law_40 ?_
      refine r_aload_n (j := 1) rfl rfl dL_law_1347 ?_
      refine r_aload_n (j := 0) rfl rfl dL_law_1348 ?_
      refine r_iload (j := 4) rfl dL_law_1349 ?_
      refine r_iconst (v := 1) (by decide) dL_law_1351 ?_
      refine r_iadd (x := v4) (y := 1) dL_law_1352 ?_
      obtain ⟨N_x266, f_x266, ha_x266, hi_x266, hf⟩ := hf
      refine r_sald ha_x266 hi_x266 dL_law_1353 ?_
      generalize f_x266 ((v4 + 1) : Int32).toNatClampNeg = x266 at hf ⊢
      try unfold C_X11_told at hf
      obtain ⟨⟨fs_r268, ha_r268⟩, hf⟩ := hf
      refine r_invVI (t := 11) (As := [aI x266]) (dz := d) (mz := 0) (sz := 0) rfl wd_6_90 wd_6_91 wd_6_92 cf_X11_told (Nat.le_refl _) (Nat.zero_le _) (Nat.zero_le _) (cat_ok (Nat.le_of_ble_eq_true rfl)) rfl rfl ha_r268 dL_law_1354 hf (fun r268 σ267 hk => ?_)
      replace hf := hk
      clear hk
      refine r_aload_n (j := 2) rfl rfl dL_law_1357 ?_
      refine r_aload_n (j := 0) rfl rfl dL_law_1358 ?_
      refine r_iload (j := 4) rfl dL_law_1359 ?_
      refine r_iconst (v := 1) (by decide) dL_law_1361 ?_
      refine r_iadd (x := v4) (y := 1) dL_law_1362 ?_
      obtain ⟨N_x269, f_x269, ha_x269, hi_x269, hf⟩ := hf
      refine r_sald ha_x269 hi_x269 dL_law_1363 ?_
      generalize f_x269 ((v4 + 1) : Int32).toNatClampNeg = x269 at hf ⊢
      try unfold C_X12_told at hf
      obtain ⟨⟨fs_r271, ha_r271⟩, hf⟩ := hf
      refine r_invVI (t := 12) (As := [aI x269]) (dz := d) (mz := 0) (sz := 0) rfl wd_9_55 wd_9_56 wd_9_57 cf_X12_told (Nat.le_refl _) (Nat.zero_le _) (Nat.zero_le _) (cat_ok (Nat.le_of_ble_eq_true rfl)) rfl rfl ha_r271 dL_law_1364 hf (fun r271 σ270 hk => ?_)
      replace hf := hk
      clear hk
      refine r_icmpeq (x := r268) (y := r271) (tgt := 1385) (by decide) dL_law_1367 (fun hc => ?_) (fun hc => ?_)
      · replace hf := hf.1 hc
        exact r_sub [0, 1, 2, 3, 4] rfl (b_L_law_1385 hX23 hf)
      · replace hf := hf.2 hc
        refine r_iconst (v := 0) (by decide) dL_law_1370 ?_
        exact r_lawret (b := false) dL_law_1371 hf
    by_cases hc44 : ((x8 &&& 63) : Int32) = 44
    · replace hf := hf.2.2.2.2.2.2.2.2.2.2.2.2.2.2.2.2.2.2.2.2.2.2.2.2.2.2.2.2.2.2.2.2.2.2.2.2.2.2.2.2.2.2.2.2.1 hc44
      refine r_tabIn (tgt := 1372) (off := 1332) (by rw [hc44]; decide) (by rw [hc44]; decide) (by rw [hc44]; decide) (by decide) dL_law_40 ?_
      refine r_aload_n (j := 1) rfl rfl dL_law_1372 ?_
      try unfold C_X11_trouble at hf
      obtain ⟨⟨fs_r273, ha_r273⟩, hf⟩ := hf
      refine r_invVI (t := 11) (As := []) (dz := d) (mz := 0) (sz := 0) rfl wd_6_105 wd_6_106 wd_6_107 cf_X11_trouble (Nat.le_refl _) (Nat.zero_le _) (Nat.zero_le _) (cat_ok (Nat.le_of_ble_eq_true rfl)) rfl rfl ha_r273 dL_law_1373 hf (fun r273 σ272 hk => ?_)
      replace hf := hk
      clear hk
      refine r_aload_n (j := 2) rfl rfl dL_law_1376 ?_
      try unfold C_X12_trouble at hf
      obtain ⟨⟨fs_r275, ha_r275⟩, hf⟩ := hf
      refine r_invVI (t := 12) (As := []) (dz := d) (mz := 0) (sz := 0) rfl wd_9_59 wd_9_60 wd_9_61 cf_X12_trouble (Nat.le_refl _) (Nat.zero_le _) (Nat.zero_le _) (cat_ok (Nat.le_of_ble_eq_true rfl)) rfl rfl ha_r275 dL_law_1377 hf (fun r275 σ274 hk => ?_)
      replace hf := hk
      clear hk
      refine r_icmpeq (x := r273) (y := r275) (tgt := 1385) (by decide) dL_law_1380 (fun hc => ?_) (fun hc => ?_)
      · replace hf := hf.1 hc
        exact r_sub [0, 1, 2, 3, 4] rfl (b_L_law_1385 hX23 hf)
      · replace hf := hf.2 hc
        refine r_iconst (v := 0) (by decide) dL_law_1383 ?_
        exact r_lawret (b := false) dL_law_1384 hf
    replace hf := hf.2.2.2.2.2.2.2.2.2.2.2.2.2.2.2.2.2.2.2.2.2.2.2.2.2.2.2.2.2.2.2.2.2.2.2.2.2.2.2.2.2.2.2.2.2 hc0 hc1 hc2 hc3 hc4 hc5 hc6 hc7 hc8 hc9 hc10 hc11 hc12 hc13 hc14 hc15 hc16 hc17 hc18 hc19 hc20 hc21 hc22 hc23 hc24 hc25 hc26 hc27 hc28 hc29 hc30 hc31 hc32 hc33 hc34 hc35 hc36 hc37 hc38 hc39 hc40 hc41 hc42 hc43 hc44
    refine r_tabOut (x := (x8 &&& 63)) (tgt := 1385) (tab_out (tab_cons (lo' := 1) (tab_ne hc0 (by decide)) (by decide) (tab_cons (lo' := 2) (tab_ne hc1 (by decide)) (by decide) (tab_cons (lo' := 3) (tab_ne hc2 (by decide)) (by decide) (tab_cons (lo' := 4) (tab_ne hc3 (by decide)) (by decide) (tab_cons (lo' := 5) (tab_ne hc4 (by decide)) (by decide) (tab_cons (lo' := 6) (tab_ne hc5 (by decide)) (by decide) (tab_cons (lo' := 7) (tab_ne hc6 (by decide)) (by decide) (tab_cons (lo' := 8) (tab_ne hc7 (by decide)) (by decide) (tab_cons (lo' := 9) (tab_ne hc8 (by decide)) (by decide) (tab_cons (lo' := 10) (tab_ne hc9 (by decide)) (by decide) (tab_cons (lo' := 11) (tab_ne hc10 (by decide)) (by decide) (tab_cons (lo' := 12) (tab_ne hc11 (by decide)) (by decide) (tab_cons (lo' := 13) (tab_ne hc12 (by decide)) (by decide) (tab_cons (lo' := 14) (tab_ne hc13 (by decide)) (by decide) (tab_cons (lo' := 15) (tab_ne hc14 (by decide)) (by decide) (tab_cons (lo' := 16) (tab_ne hc15 (by decide)) (by decide) (tab_cons (lo' := 17) (tab_ne hc16 (by decide)) (by decide) (tab_cons (lo' := 18) (tab_ne hc17 (by decide)) (by decide) (tab_cons (lo' := 19) (tab_ne hc18 (by decide)) (by decide) (tab_cons (lo' := 20) (tab_ne hc19 (by decide)) (by decide) (tab_cons (lo' := 21) (tab_ne hc20 (by decide)) (by decide) (tab_cons (lo' := 22) (tab_ne hc21 (by decide)) (by decide) (tab_cons (lo' := 23) (tab_ne hc22 (by decide)) (by decide) (tab_cons (lo' := 24) (tab_ne hc23 (by decide)) (by decide) (tab_cons (lo' := 25) (tab_ne hc24 (by decide)) (by decide) (tab_cons (lo' := 26) (tab_ne hc25 (by decide)) (by decide) (tab_cons (lo' := 27) (tab_ne hc26 (by decide)) (by decide) (tab_cons (lo' := 28) (tab_ne hc27 (by decide)) (by decide) (tab_cons (lo' := 29) (tab_ne hc28 (by decide)) (by decide) (tab_cons (lo' := 30) (tab_ne hc29 (by decide)) (by decide) (tab_cons (lo' := 31) (tab_ne hc30 (by decide)) (by decide) (tab_cons (lo' := 32) (tab_ne hc31 (by decide)) (by decide) (tab_cons (lo' := 33) (tab_ne hc32 (by decide)) (by decide) (tab_cons (lo' := 34) (tab_ne hc33 (by decide)) (by decide) (tab_cons (lo' := 35) (tab_ne hc34 (by decide)) (by decide) (tab_cons (lo' := 36) (tab_ne hc35 (by decide)) (by decide) (tab_cons (lo' := 37) (tab_ne hc36 (by decide)) (by decide) (tab_cons (lo' := 38) (tab_ne hc37 (by decide)) (by decide) (tab_cons (lo' := 39) (tab_ne hc38 (by decide)) (by decide) (tab_cons (lo' := 40) (tab_ne hc39 (by decide)) (by decide) (tab_cons (lo' := 41) (tab_ne hc40 (by decide)) (by decide) (tab_cons (lo' := 42) (tab_ne hc41 (by decide)) (by decide) (tab_cons (lo' := 43) (tab_ne hc42 (by decide)) (by decide) (tab_cons (lo' := 44) (tab_ne hc43 (by decide)) (by decide) (tab_cons (lo' := 45) (tab_ne hc44 (by decide)) (by decide) (tab_nil (by decide)))))))))))))))))))))))))))))))))))))))))))))))) (by decide) dL_law_40 ?_
    exact r_sub [0, 1, 2, 3, 4] rfl (b_L_law_1385 hX23 hf)
def Z_L_law_23 (l : Launch) (G : GG) (d : Nat) (K : Bool → Hp → Prop) : Nat → Nat → Nat → Nat → Nat → Int32 → Hp → Nat → Nat → Prop
  | 0 => fun _ _ _ _ _ _ _ _ => False
  | n + 1 => fun v0 v1 v2 v3 v4 σ bc bs => F_L_law_23 l G d (Z_L_law_23 l G d K n) v0 v1 v2 v3 v4 σ bc bs K
theorem z_L_law_23 {l : Launch} {G : GG} {d : Nat} {K : Bool → Hp → Prop} : ∀ (n : Nat) v0 v1 v2 v3 v4 σ bc bs, Z_L_law_23 l G d K n v0 v1 v2 v3 v4 σ bc bs → Wd l G (d + 1) "CoinsLaidLaw" yL_law cL_law 7 (some .boolean) 23 [(0, aR (some v0)), (1, aR (some v1)), (2, aR (some v2)), (3, aR (some v3)), (4, aI v4)] [] σ bc bs (xL K) := by
  intro n
  induction n with
  | zero => intro v0 v1 v2 v3 v4 σ bc bs hf; exact hf.elim
  | succ n ih => intro v0 v1 v2 v3 v4 σ bc bs hf; exact b_L_law_23 ih hf
def F_L_law (l : Launch) (G : GG) (d : Nat) (v0 : Nat) (σ : Hp) (bc bs : Nat) (K : Bool → Hp → Prop) : Prop :=
  nO σ 11 [aR none, aI 0, aI 0, aI 0, aI 0, aR none, aR none, aR none, aR none, aR none, aR none, aR none] 12 bc bs fun q276 σ277 =>
  ∃ mz280 sz281, mz280 ≤ (bc - 1) ∧ sz281 ≤ (bs - 12) ∧ C_X11_init l G d mz280 sz281 q276 σ277 fun σ278 =>
  nO σ278 12 [aI 0, aR none, aI 0, aI 0, aI 0, aI 0, aI 0, aI 0, aI 0, aI 0, aI 0, aI 0, aR none, aI (bi false), aI (bi false), aR none, aR none, aR none, aR none, aR none, aR none, aI 0, aI 0, aR none, aR none, aR none, aR none, aR none, aR none, aR none, aI 0, aR none, aR none, aR none, aR none, aR none, aR none, aR none, aI 0, aR none, aI 0, aI 0] 42 ((bc - 1) - mz280) ((bs - 12) - sz281) fun q282 σ283 =>
  ∃ mz286 sz287, mz286 ≤ (((bc - 1) - mz280) - 1) ∧ sz287 ≤ (((bs - 12) - sz281) - 42) ∧ C_X12_init l G d mz286 sz287 q282 σ283 fun σ284 =>
  nJ_ σ284 1 ((((bc - 1) - mz280) - 1) - mz286) ((((bs - 12) - sz281) - 42) - sz287) fun N290 q288 σ289 =>
  ∃ n, Z_L_law_23 l G d K n v0 q276 q282 q288 0 σ289 (((((bc - 1) - mz280) - 1) - mz286) - 1) (((((bs - 12) - sz281) - 42) - sz287) - N290)
set_option maxRecDepth 100000 in
set_option maxHeartbeats 4000000 in
theorem b_L_law_0 {l : Launch} {G : GG} {d : Nat} {v0 : Nat} {σ : Hp} {bc bs : Nat} {K : Bool → Hp → Prop} (hf : F_L_law l G d v0 σ bc bs K) : Wd l G (d + 1) "CoinsLaidLaw" yL_law cL_law 7 (some .boolean) 0 [(0, aR (some v0))] [] σ bc bs (xL K) := by
  unfold F_L_law at hf
  obtain ⟨hbc, hbs, hf⟩ := hf
  refine r_new (t := 11) (Cn := RX11) (Tt := TX11) (N := 12) (fs := [aR none, aI 0, aI 0, aI 0, aI 0, aR none, aR none, aR none, aR none, aR none, aR none, aR none]) (ty0 := tyX11) rfl uw_X11 tyX11_ok wd_1_31 wd_1_32 wd_1_1 rfl dfv_X11 hbc hbs dL_law_0 (fun q276 hq_q276 => ?_)
  replace hf := hf q276 hq_q276
  generalize hset σ q276 (.inl (11, [aR none, aI 0, aI 0, aI 0, aI 0, aR none, aR none, aR none, aR none, aR none, aR none, aR none])) = σ277 at hf ⊢
  refine r_dup rfl dL_law_3 ?_
  obtain ⟨mz280, sz281, hbc, hbs, hf⟩ := hf
  try unfold C_X11_init at hf
  refine r_invIU (As := []) (dz := d) (mz := mz280) (sz := sz281) rfl wd_1_33 wd_1_34 rfl rfl cf_X11_init (Nat.le_refl _) hbc hbs (cat_ok (Nat.le_of_ble_eq_true rfl)) dL_law_4 hf (fun σ278 hk => ?_)
  replace hf := hk
  clear hk
  refine r_astore_n (L' := [(1, aR (some q276)), (0, aR (some v0))]) rfl rfl (Nat.le_of_ble_eq_true rfl) dL_law_7 ?_
  obtain ⟨hbc, hbs, hf⟩ := hf
  refine r_new (t := 12) (Cn := RX12) (Tt := TX12) (N := 42) (fs := [aI 0, aR none, aI 0, aI 0, aI 0, aI 0, aI 0, aI 0, aI 0, aI 0, aI 0, aI 0, aR none, aI (bi false), aI (bi false), aR none, aR none, aR none, aR none, aR none, aR none, aI 0, aI 0, aR none, aR none, aR none, aR none, aR none, aR none, aR none, aI 0, aR none, aR none, aR none, aR none, aR none, aR none, aR none, aI 0, aR none, aI 0, aI 0]) (ty0 := tyX12) rfl uw_X12 tyX12_ok wd_6_179 wd_6_180 wd_1_7 rfl dfv_X12 hbc hbs dL_law_8 (fun q282 hq_q282 => ?_)
  replace hf := hf q282 hq_q282
  generalize hset σ278 q282 (.inl (12, [aI 0, aR none, aI 0, aI 0, aI 0, aI 0, aI 0, aI 0, aI 0, aI 0, aI 0, aI 0, aR none, aI (bi false), aI (bi false), aR none, aR none, aR none, aR none, aR none, aR none, aI 0, aI 0, aR none, aR none, aR none, aR none, aR none, aR none, aR none, aI 0, aR none, aR none, aR none, aR none, aR none, aR none, aR none, aI 0, aR none, aI 0, aI 0])) = σ283 at hf ⊢
  refine r_dup rfl dL_law_11 ?_
  obtain ⟨mz286, sz287, hbc, hbs, hf⟩ := hf
  try unfold C_X12_init at hf
  refine r_invIU (As := []) (dz := d) (mz := mz286) (sz := sz287) rfl wd_6_181 wd_6_182 rfl rfl cf_X12_init (Nat.le_refl _) hbc hbs (cat_ok (Nat.le_of_ble_eq_true rfl)) dL_law_12 hf (fun σ284 hk => ?_)
  replace hf := hk
  clear hk
  refine r_astore_n (L' := [(2, aR (some q282)), (1, aR (some q276)), (0, aR (some v0))]) rfl rfl (Nat.le_of_ble_eq_true rfl) dL_law_15 ?_
  refine r_iconst (v := 1) (by decide) dL_law_16 ?_
  obtain ⟨N290, hn_N290, hl_N290, hbc, hbs, hf⟩ := hf
  refine r_newJ wd_1_82 hn_N290 hl_N290 hbc hbs dL_law_17 (fun q288 hq_q288 => ?_)
  replace hf := hf q288 hq_q288
  refine Eq.mpr (congrArg (fun z => Wd _ _ _ _ _ _ _ _ _ _ _ z _ _ _) (rfl : _ = hset σ284 q288 (jA N290 fun _ => 0))) ?_
  generalize hset σ284 q288 (jA N290 fun _ => 0) = σ289 at hf ⊢
  refine r_astore_n (L' := [(3, aR (some q288)), (2, aR (some q282)), (1, aR (some q276)), (0, aR (some v0))]) rfl rfl (Nat.le_of_ble_eq_true rfl) dL_law_19 ?_
  refine r_iconst (v := 0) (by decide) dL_law_20 ?_
  refine r_istore (L' := [(4, aI 0), (3, aR (some q288)), (2, aR (some q282)), (1, aR (some q276)), (0, aR (some v0))]) rfl (Nat.le_of_ble_eq_true rfl) dL_law_21 ?_
  obtain ⟨n, hf⟩ := hf
  exact r_sub [4, 3, 2, 1, 0] rfl (z_L_law_23 n _ _ _ _ _ _ _ _ hf)
