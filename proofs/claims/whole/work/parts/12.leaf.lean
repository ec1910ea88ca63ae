/-! 12.leaf: written by wip/whole/gen.py -/
def F_X0_init (l : Launch) (G : GG) (d : Nat) (v0 : Nat) (v1 : Int32) (v2 : Int64) (v4 : Int32) (v5 : Int32) (v6 : Int32) (σ : Hp) (K : Hp → Prop) : Prop :=
  pF σ v0 0 0 (aI v1) fun σ1 =>
  pF σ1 v0 0 1 (aJ v2) fun σ3 =>
  pF σ3 v0 0 2 (aI v4) fun σ5 =>
  pF σ5 v0 0 3 (aI v5) fun σ7 =>
  pF σ7 v0 0 4 (aI v6) fun σ9 =>
  K σ9
set_option maxRecDepth 100000 in
set_option maxHeartbeats 4000000 in
theorem b_X0_init_0 {l : Launch} {G : GG} {d : Nat} {v0 : Nat} {v1 : Int32} {v2 : Int64} {v4 : Int32} {v5 : Int32} {v6 : Int32} {σ : Hp} {K : Hp → Prop} (hf : F_X0_init l G d v0 v1 v2 v4 v5 v6 σ K) : Wd l G (d + 1) "CoinsLaid$Board" yX0_init cX0_init 7 none 0 [(0, aR (some v0)), (1, aI v1), (2, aJ v2), (4, aI v4), (5, aI v5), (6, aI v6)] [] σ 0 0 (xM (QV K)) := by
  unfold F_X0_init at hf
  refine r_aload_n (j := 0) rfl rfl dX0_init_0 ?_
  refine r_objInit wd_3_54 wd_1_37 wd_1_38 (Nat.le_add_left 1 d) (cat_ok (Nat.le_of_ble_eq_true rfl)) dX0_init_1 ?_
  refine r_aload_n (j := 0) rfl rfl dX0_init_4 ?_
  refine r_iload_n (j := 1) rfl rfl dX0_init_5 ?_
  obtain ⟨fs_x2, ha_x2, hf⟩ := hf
  generalize hσ1 : hset σ v0 (.inl (0, fs_x2.set 0 (aI v1))) = σ1 at hf
  refine r_putF (Cn := RX0) (Tt := TX0) (N := 5) (n := 0) (v := aI v1) rfl uw_X0 (Nat.le_of_ble_eq_true rfl) wd_3_55 ha_x2 (ty0 := tyX0) tyX0_ok nmX0 rfl rfl rfl (fo_I v1) dX0_init_6 ?_
  rw [hσ1]
  refine r_aload_n (j := 0) rfl rfl dX0_init_9 ?_
  refine r_lload_n (j := 2) rfl rfl dX0_init_10 ?_
  obtain ⟨fs_x4, ha_x4, hf⟩ := hf
  generalize hσ3 : hset σ1 v0 (.inl (0, fs_x4.set 1 (aJ v2))) = σ3 at hf
  refine r_putF (Cn := RX0) (Tt := TX0) (N := 5) (n := 1) (v := aJ v2) rfl uw_X0 (Nat.le_of_ble_eq_true rfl) wd_3_58 ha_x4 (ty0 := tyX0) tyX0_ok nmX0 rfl rfl rfl (fo_J v2) dX0_init_11 ?_
  rw [hσ3]
  refine r_aload_n (j := 0) rfl rfl dX0_init_14 ?_
  refine r_iload (j := 3) rfl dX0_init_15 ?_
  obtain ⟨fs_x6, ha_x6, hf⟩ := hf
  generalize hσ5 : hset σ3 v0 (.inl (0, fs_x6.set 2 (aI v4))) = σ5 at hf
  refine r_putF (Cn := RX0) (Tt := TX0) (N := 5) (n := 2) (v := aI v4) rfl uw_X0 (Nat.le_of_ble_eq_true rfl) wd_3_60 ha_x6 (ty0 := tyX0) tyX0_ok nmX0 rfl rfl rfl (fo_I v4) dX0_init_17 ?_
  rw [hσ5]
  refine r_aload_n (j := 0) rfl rfl dX0_init_20 ?_
  refine r_iload (j := 4) rfl dX0_init_21 ?_
  obtain ⟨fs_x8, ha_x8, hf⟩ := hf
  generalize hσ7 : hset σ5 v0 (.inl (0, fs_x8.set 3 (aI v5))) = σ7 at hf
  refine r_putF (Cn := RX0) (Tt := TX0) (N := 5) (n := 3) (v := aI v5) rfl uw_X0 (Nat.le_of_ble_eq_true rfl) wd_3_64 ha_x8 (ty0 := tyX0) tyX0_ok nmX0 rfl rfl rfl (fo_I v5) dX0_init_23 ?_
  rw [hσ7]
  refine r_aload_n (j := 0) rfl rfl dX0_init_26 ?_
  refine r_iload (j := 5) rfl dX0_init_27 ?_
  obtain ⟨fs_x10, ha_x10, hf⟩ := hf
  generalize hσ9 : hset σ7 v0 (.inl (0, fs_x10.set 4 (aI v6))) = σ9 at hf
  refine r_putF (Cn := RX0) (Tt := TX0) (N := 5) (n := 4) (v := aI v6) rfl uw_X0 (Nat.le_of_ble_eq_true rfl) wd_3_68 ha_x10 (ty0 := tyX0) tyX0_ok nmX0 rfl rfl rfl (fo_I v6) dX0_init_29 ?_
  rw [hσ9]
  exact r_return rfl dX0_init_32 rfl ⟨rfl, hf⟩
theorem m_X0_init {l : Launch} {G : GG} {d : Nat} {v0 : Nat} {v1 : Int32} {v2 : Int64} {v4 : Int32} {v5 : Int32} {v6 : Int32} {σ : Hp} {K : Hp → Prop} (hf : F_X0_init l G d v0 v1 v2 v4 v5 v6 σ K) : C_X0_init l G (d + 1) v0 v1 v2 v4 v5 v6 σ K := Sp.of (by decide) (Nat.le_of_ble_eq_true rfl) (b_X0_init_0 hf) rfl
def F_X0_bit_24 (l : Launch) (G : GG) (d : Nat) (σ : Hp) (K : Int32 → Hp → Prop) : Prop :=
  K 0 σ
set_option maxRecDepth 100000 in
set_option maxHeartbeats 4000000 in
theorem b_X0_bit_24 {l : Launch} {G : GG} {d : Nat} {σ : Hp} {K : Int32 → Hp → Prop} (hf : F_X0_bit_24 l G d  σ K) : Wd l G (d + 1) "CoinsLaid$Board" yX0_bit cX0_bit 3 (some FieldType.int) 24 [] [] σ 0 0 (xM (QI K)) := by
  unfold F_X0_bit_24 at hf
  refine r_iconst (v := 0) (by decide) dX0_bit_24 ?_
  exact r_ireturn rfl dX0_bit_25 rfl ⟨_, rfl, hf⟩
def F_X0_bit (l : Launch) (G : GG) (d : Nat) (v0 : Nat) (v1 : Int32) (v2 : Int32) (σ : Hp) (K : Int32 → Hp → Prop) : Prop :=
  ((v1 : Int32) < 0 →
    F_X0_bit_24 l G d σ K) ∧
  (¬ (v1 : Int32) < 0 →
    fI σ v0 0 2 fun x1 =>
    ((x1 : Int32) ≤ (v1 : Int32) →
      F_X0_bit_24 l G d σ K) ∧
    (¬ (x1 : Int32) ≤ (v1 : Int32) →
      ((v2 : Int32) < 0 →
        F_X0_bit_24 l G d σ K) ∧
      (¬ (v2 : Int32) < 0 →
        fI σ v0 0 3 fun x2 =>
        ((v2 : Int32) < (x2 : Int32) →
          fI σ v0 0 4 fun x3 =>
          fI σ v0 0 2 fun x4 =>
          K (1 <<< (((x3 + (v2 * x4)) + v1) &&& 31)) σ) ∧
        (¬ (v2 : Int32) < (x2 : Int32) →
          F_X0_bit_24 l G d σ K))))
set_option maxRecDepth 100000 in
set_option maxHeartbeats 4000000 in
theorem b_X0_bit_0 {l : Launch} {G : GG} {d : Nat} {v0 : Nat} {v1 : Int32} {v2 : Int32} {σ : Hp} {K : Int32 → Hp → Prop} (hf : F_X0_bit l G d v0 v1 v2 σ K) : Wd l G (d + 1) "CoinsLaid$Board" yX0_bit cX0_bit 3 (some FieldType.int) 0 [(0, aR (some v0)), (1, aI v1), (2, aI v2)] [] σ 0 0 (xM (QI K)) := by
  unfold F_X0_bit at hf
  refine r_iload_n (j := 1) rfl rfl dX0_bit_0 ?_
  refine r_iflt (x := v1) (tgt := 24) (by decide) dX0_bit_1 (fun hc => ?_) (fun hc => ?_)
  · replace hf := hf.1 hc
    exact r_sub [] rfl (b_X0_bit_24 hf)
  · replace hf := hf.2 hc
    refine r_iload_n (j := 1) rfl rfl dX0_bit_4 ?_
    refine r_aload_n (j := 0) rfl rfl dX0_bit_5 ?_
    obtain ⟨fs_x1, x1, ha_x1, hv_x1, hf⟩ := hf
    refine r_get (Cn := RX0) (Tt := TX0) (N := 5) (n := 2) rfl uw_X0 (Nat.le_of_ble_eq_true rfl) wd_3_60 ha_x1 hv_x1 dX0_bit_6 ?_
    refine r_icmpge (x := v1) (y := x1) (tgt := 24) (by decide) dX0_bit_9 (fun hc => ?_) (fun hc => ?_)
    · replace hf := hf.1 hc
      exact r_sub [] rfl (b_X0_bit_24 hf)
    · replace hf := hf.2 hc
      refine r_iload_n (j := 2) rfl rfl dX0_bit_12 ?_
      refine r_iflt (x := v2) (tgt := 24) (by decide) dX0_bit_13 (fun hc => ?_) (fun hc => ?_)
      · replace hf := hf.1 hc
        exact r_sub [] rfl (b_X0_bit_24 hf)
      · replace hf := hf.2 hc
        refine r_iload_n (j := 2) rfl rfl dX0_bit_16 ?_
        refine r_aload_n (j := 0) rfl rfl dX0_bit_17 ?_
        obtain ⟨fs_x2, x2, ha_x2, hv_x2, hf⟩ := hf
        refine r_get (Cn := RX0) (Tt := TX0) (N := 5) (n := 3) rfl uw_X0 (Nat.le_of_ble_eq_true rfl) wd_3_64 ha_x2 hv_x2 dX0_bit_18 ?_
        refine r_icmplt (x := v2) (y := x2) (tgt := 26) (by decide) dX0_bit_21 (fun hc => ?_) (fun hc => ?_)
        · replace hf := hf.1 hc
          refine r_iconst (v := 1) (by decide) dX0_bit_26 ?_
          refine r_aload_n (j := 0) rfl rfl dX0_bit_27 ?_
          obtain ⟨fs_x3, x3, ha_x3, hv_x3, hf⟩ := hf
          refine r_get (Cn := RX0) (Tt := TX0) (N := 5) (n := 4) rfl uw_X0 (Nat.le_of_ble_eq_true rfl) wd_3_68 ha_x3 hv_x3 dX0_bit_28 ?_
          refine r_iload_n (j := 2) rfl rfl dX0_bit_31 ?_
          refine r_aload_n (j := 0) rfl rfl dX0_bit_32 ?_
          obtain ⟨fs_x4, x4, ha_x4, hv_x4, hf⟩ := hf
          refine r_get (Cn := RX0) (Tt := TX0) (N := 5) (n := 2) rfl uw_X0 (Nat.le_of_ble_eq_true rfl) wd_3_60 ha_x4 hv_x4 dX0_bit_33 ?_
          refine r_imul (x := v2) (y := x4) dX0_bit_36 ?_
          refine r_iadd (x := x3) (y := (v2 * x4)) dX0_bit_37 ?_
          refine r_iload_n (j := 1) rfl rfl dX0_bit_38 ?_
          refine r_iadd (x := (x3 + (v2 * x4))) (y := v1) dX0_bit_39 ?_
          refine r_ishl (x := 1) (y := ((x3 + (v2 * x4)) + v1)) dX0_bit_40 ?_
          exact r_ireturn rfl dX0_bit_41 rfl ⟨_, rfl, hf⟩
        · replace hf := hf.2 hc
          exact r_sub [] rfl (b_X0_bit_24 hf)
theorem m_X0_bit {l : Launch} {G : GG} {d : Nat} {v0 : Nat} {v1 : Int32} {v2 : Int32} {σ : Hp} {K : Int32 → Hp → Prop} (hr : rv σ v0 0) (hf : F_X0_bit l G d v0 v1 v2 σ K) : C_X0_bit l G (d + 1) v0 v1 v2 σ K := ⟨hr, Sp.of (by decide) (Nat.le_of_ble_eq_true rfl) (b_X0_bit_0 hf) rfl⟩
def F_X0_allSquares (l : Launch) (G : GG) (d : Nat) (v0 : Nat) (σ : Hp) (K : Int32 → Hp → Prop) : Prop :=
  fI σ v0 0 2 fun x1 =>
  fI σ v0 0 3 fun x2 =>
  fI σ v0 0 4 fun x3 =>
  K (((1 <<< ((x1 * x2) &&& 31)) - 1) <<< (x3 &&& 31)) σ
set_option maxRecDepth 100000 in
set_option maxHeartbeats 4000000 in
theorem b_X0_allSquares_0 {l : Launch} {G : GG} {d : Nat} {v0 : Nat} {σ : Hp} {K : Int32 → Hp → Prop} (hf : F_X0_allSquares l G d v0 σ K) : Wd l G (d + 1) "CoinsLaid$Board" yX0_allSquares cX0_allSquares 1 (some FieldType.int) 0 [(0, aR (some v0))] [] σ 0 0 (xM (QI K)) := by
  unfold F_X0_allSquares at hf
  refine r_iconst (v := 1) (by decide) dX0_allSquares_0 ?_
  refine r_aload_n (j := 0) rfl rfl dX0_allSquares_1 ?_
  obtain ⟨fs_x1, x1, ha_x1, hv_x1, hf⟩ := hf
  refine r_get (Cn := RX0) (Tt := TX0) (N := 5) (n := 2) rfl uw_X0 (Nat.le_of_ble_eq_true rfl) wd_3_60 ha_x1 hv_x1 dX0_allSquares_2 ?_
  refine r_aload_n (j := 0) rfl rfl dX0_allSquares_5 ?_
  obtain ⟨fs_x2, x2, ha_x2, hv_x2, hf⟩ := hf
  refine r_get (Cn := RX0) (Tt := TX0) (N := 5) (n := 3) rfl uw_X0 (Nat.le_of_ble_eq_true rfl) wd_3_64 ha_x2 hv_x2 dX0_allSquares_6 ?_
  refine r_imul (x := x1) (y := x2) dX0_allSquares_9 ?_
  refine r_ishl (x := 1) (y := (x1 * x2)) dX0_allSquares_10 ?_
  refine r_iconst (v := 1) (by decide) dX0_allSquares_11 ?_
  refine r_isub (x := (1 <<< ((x1 * x2) &&& 31))) (y := 1) dX0_allSquares_12 ?_
  refine r_aload_n (j := 0) rfl rfl dX0_allSquares_13 ?_
  obtain ⟨fs_x3, x3, ha_x3, hv_x3, hf⟩ := hf
  refine r_get (Cn := RX0) (Tt := TX0) (N := 5) (n := 4) rfl uw_X0 (Nat.le_of_ble_eq_true rfl) wd_3_68 ha_x3 hv_x3 dX0_allSquares_14 ?_
  refine r_ishl (x := ((1 <<< ((x1 * x2) &&& 31)) - 1)) (y := x3) dX0_allSquares_17 ?_
  exact r_ireturn rfl dX0_allSquares_18 rfl ⟨_, rfl, hf⟩
theorem m_X0_allSquares {l : Launch} {G : GG} {d : Nat} {v0 : Nat} {σ : Hp} {K : Int32 → Hp → Prop} (hr : rv σ v0 0) (hf : F_X0_allSquares l G d v0 σ K) : C_X0_allSquares l G (d + 1) v0 σ K := ⟨hr, Sp.of (by decide) (Nat.le_of_ble_eq_true rfl) (b_X0_allSquares_0 hf) rfl⟩
def F_X0_turnedHalfRound_60 (l : Launch) (G : GG) (d : Nat) (X4 : Nat → Int32 → Int32 → Int32 → Hp → Prop) (X15 : Nat → Int32 → Int32 → Int32 → Int32 → Hp → Prop) (v0 : Nat) (v1 : Int32) (v2 : Int32) (v3 : Int32) (v4 : Int32) (σ : Hp) (K : Int32 → Hp → Prop) : Prop :=
  X15 v0 v1 v2 v3 (v4 + 1) σ
set_option maxRecDepth 100000 in
set_option maxHeartbeats 4000000 in
theorem b_X0_turnedHalfRound_60 {l : Launch} {G : GG} {d : Nat} {X4 : Nat → Int32 → Int32 → Int32 → Hp → Prop} {X15 : Nat → Int32 → Int32 → Int32 → Int32 → Hp → Prop} {v0 : Nat} {v1 : Int32} {v2 : Int32} {v3 : Int32} {v4 : Int32} {σ : Hp} {K : Int32 → Hp → Prop} (hX4 : ∀ v0 v1 v2 v3 σ, X4 v0 v1 v2 v3 σ → Wd l G (d + 1) "CoinsLaid$Board" yX0_turnedHalfRound cX0_turnedHalfRound 5 (some FieldType.int) 4 [(0, aR (some v0)), (1, aI v1), (2, aI v2), (3, aI v3)] [] σ 0 0 (xM (QI K))) (hX15 : ∀ v0 v1 v2 v3 v4 σ, X15 v0 v1 v2 v3 v4 σ → Wd l G (d + 1) "CoinsLaid$Board" yX0_turnedHalfRound cX0_turnedHalfRound 5 (some FieldType.int) 15 [(0, aR (some v0)), (1, aI v1), (2, aI v2), (3, aI v3), (4, aI v4)] [] σ 0 0 (xM (QI K))) (hf : F_X0_turnedHalfRound_60 l G d X4 X15 v0 v1 v2 v3 v4 σ K) : Wd l G (d + 1) "CoinsLaid$Board" yX0_turnedHalfRound cX0_turnedHalfRound 5 (some FieldType.int) 60 [(0, aR (some v0)), (1, aI v1), (2, aI v2), (3, aI v3), (4, aI v4)] [] σ 0 0 (xM (QI K)) := by
  unfold F_X0_turnedHalfRound_60 at hf
  refine r_iinc (j := 4) (w := (v4 + 1)) (L' := [(4, aI (v4 + 1)), (0, aR (some v0)), (1, aI v1), (2, aI v2), (3, aI v3)]) rfl (by rfl) rfl (Nat.le_of_ble_eq_true rfl) dX0_turnedHalfRound_60 ?_
  refine r_goto (tgt := 15) (by decide) dX0_turnedHalfRound_63 ?_
  exact r_sub [1, 2, 3, 4, 0] rfl (hX15 _ _ _ _ _ _ hf)
def F_X0_turnedHalfRound_15 (l : Launch) (G : GG) (d : Nat) (X4 : Nat → Int32 → Int32 → Int32 → Hp → Prop) (X15 : Nat → Int32 → Int32 → Int32 → Int32 → Hp → Prop) (v0 : Nat) (v1 : Int32) (v2 : Int32) (v3 : Int32) (v4 : Int32) (σ : Hp) (K : Int32 → Hp → Prop) : Prop :=
  fI σ v0 0 2 fun x1 =>
  ((x1 : Int32) ≤ (v4 : Int32) →
    X4 v0 v1 v2 (v3 + 1) σ) ∧
  (¬ (x1 : Int32) ≤ (v4 : Int32) →
    C_X0_bit l G d v0 v4 v3 σ fun r3 σ2 =>
    (((v1 &&& r3) : Int32) = 0 →
      F_X0_turnedHalfRound_60 l G d X4 X15 v0 v1 v2 v3 v4 σ2 K) ∧
    (¬ ((v1 &&& r3) : Int32) = 0 →
      fI σ2 v0 0 2 fun x4 =>
      fI σ2 v0 0 3 fun x5 =>
      C_X0_bit l G d v0 ((x4 - 1) - v4) ((x5 - 1) - v3) σ2 fun r7 σ6 =>
      F_X0_turnedHalfRound_60 l G d X4 X15 v0 v1 (v2 ||| r7) v3 v4 σ6 K))
set_option maxRecDepth 100000 in
set_option maxHeartbeats 4000000 in
theorem b_X0_turnedHalfRound_15 {l : Launch} {G : GG} {d : Nat} {X4 : Nat → Int32 → Int32 → Int32 → Hp → Prop} {X15 : Nat → Int32 → Int32 → Int32 → Int32 → Hp → Prop} {v0 : Nat} {v1 : Int32} {v2 : Int32} {v3 : Int32} {v4 : Int32} {σ : Hp} {K : Int32 → Hp → Prop} (hX4 : ∀ v0 v1 v2 v3 σ, X4 v0 v1 v2 v3 σ → Wd l G (d + 1) "CoinsLaid$Board" yX0_turnedHalfRound cX0_turnedHalfRound 5 (some FieldType.int) 4 [(0, aR (some v0)), (1, aI v1), (2, aI v2), (3, aI v3)] [] σ 0 0 (xM (QI K))) (hX15 : ∀ v0 v1 v2 v3 v4 σ, X15 v0 v1 v2 v3 v4 σ → Wd l G (d + 1) "CoinsLaid$Board" yX0_turnedHalfRound cX0_turnedHalfRound 5 (some FieldType.int) 15 [(0, aR (some v0)), (1, aI v1), (2, aI v2), (3, aI v3), (4, aI v4)] [] σ 0 0 (xM (QI K))) (hf : F_X0_turnedHalfRound_15 l G d X4 X15 v0 v1 v2 v3 v4 σ K) : Wd l G (d + 1) "CoinsLaid$Board" yX0_turnedHalfRound cX0_turnedHalfRound 5 (some FieldType.int) 15 [(0, aR (some v0)), (1, aI v1), (2, aI v2), (3, aI v3), (4, aI v4)] [] σ 0 0 (xM (QI K)) := by
  unfold F_X0_turnedHalfRound_15 at hf
  refine r_iload (j := 4) rfl dX0_turnedHalfRound_15 ?_
  refine r_aload_n (j := 0) rfl rfl dX0_turnedHalfRound_17 ?_
  obtain ⟨fs_x1, x1, ha_x1, hv_x1, hf⟩ := hf
  refine r_get (Cn := RX0) (Tt := TX0) (N := 5) (n := 2) rfl uw_X0 (Nat.le_of_ble_eq_true rfl) wd_3_60 ha_x1 hv_x1 dX0_turnedHalfRound_18 ?_
  refine r_icmpge (x := v4) (y := x1) (tgt := 66) (by decide) dX0_turnedHalfRound_21 (fun hc => ?_) (fun hc => ?_)
  · replace hf := hf.1 hc
    refine r_iinc (j := 3) (w := (v3 + 1)) (L' := [(3, aI (v3 + 1)), (0, aR (some v0)), (1, aI v1), (2, aI v2), (4, aI v4)]) rfl (by rfl) rfl (Nat.le_of_ble_eq_true rfl) dX0_turnedHalfRound_66 ?_
    refine r_goto (tgt := 4) (by decide) dX0_turnedHalfRound_69 ?_
    exact r_sub [1, 2, 3, 0] rfl (hX4 _ _ _ _ _ hf)
  · replace hf := hf.2 hc
    refine r_iload_n (j := 1) rfl rfl dX0_turnedHalfRound_24 ?_
    refine r_aload_n (j := 0) rfl rfl dX0_turnedHalfRound_25 ?_
    refine r_iload (j := 4) rfl dX0_turnedHalfRound_26 ?_
    refine r_iload_n (j := 3) rfl rfl dX0_turnedHalfRound_28 ?_
    try unfold C_X0_bit at hf
    obtain ⟨⟨fs_r3, ha_r3⟩, hf⟩ := hf
    refine r_invVI (t := 0) (As := [aI v4, aI v3]) (dz := d) (mz := 0) (sz := 0) rfl wd_4_61 wd_3_162 wd_3_163 cf_X0_bit (Nat.le_refl _) (Nat.zero_le _) (Nat.zero_le _) (cat_ok (Nat.le_of_ble_eq_true rfl)) rfl rfl ha_r3 dX0_turnedHalfRound_29 hf (fun r3 σ2 hk => ?_)
    replace hf := hk
    clear hk
    refine r_iand (x := v1) (y := r3) dX0_turnedHalfRound_32 ?_
    refine r_ifeq (x := (v1 &&& r3)) (tgt := 60) (by decide) dX0_turnedHalfRound_33 (fun hc => ?_) (fun hc => ?_)
    · replace hf := hf.1 hc
      exact r_sub [0, 1, 2, 3, 4] rfl (b_X0_turnedHalfRound_60 hX4 hX15 hf)
    · replace hf := hf.2 hc
      refine r_iload_n (j := 2) rfl rfl dX0_turnedHalfRound_36 ?_
      refine r_aload_n (j := 0) rfl rfl dX0_turnedHalfRound_37 ?_
      refine r_aload_n (j := 0) rfl rfl dX0_turnedHalfRound_38 ?_
      obtain ⟨fs_x4, x4, ha_x4, hv_x4, hf⟩ := hf
      refine r_get (Cn := RX0) (Tt := TX0) (N := 5) (n := 2) rfl uw_X0 (Nat.le_of_ble_eq_true rfl) wd_3_60 ha_x4 hv_x4 dX0_turnedHalfRound_39 ?_
      refine r_iconst (v := 1) (by decide) dX0_turnedHalfRound_42 ?_
      refine r_isub (x := x4) (y := 1) dX0_turnedHalfRound_43 ?_
      refine r_iload (j := 4) rfl dX0_turnedHalfRound_44 ?_
      refine r_isub (x := (x4 - 1)) (y := v4) dX0_turnedHalfRound_46 ?_
      refine r_aload_n (j := 0) rfl rfl dX0_turnedHalfRound_47 ?_
      obtain ⟨fs_x5, x5, ha_x5, hv_x5, hf⟩ := hf
      refine r_get (Cn := RX0) (Tt := TX0) (N := 5) (n := 3) rfl uw_X0 (Nat.le_of_ble_eq_true rfl) wd_3_64 ha_x5 hv_x5 dX0_turnedHalfRound_48 ?_
      refine r_iconst (v := 1) (by decide) dX0_turnedHalfRound_51 ?_
      refine r_isub (x := x5) (y := 1) dX0_turnedHalfRound_52 ?_
      refine r_iload_n (j := 3) rfl rfl dX0_turnedHalfRound_53 ?_
      refine r_isub (x := (x5 - 1)) (y := v3) dX0_turnedHalfRound_54 ?_
      try unfold C_X0_bit at hf
      obtain ⟨⟨fs_r7, ha_r7⟩, hf⟩ := hf
      refine r_invVI (t := 0) (As := [aI ((x4 - 1) - v4), aI ((x5 - 1) - v3)]) (dz := d) (mz := 0) (sz := 0) rfl wd_4_61 wd_3_162 wd_3_163 cf_X0_bit (Nat.le_refl _) (Nat.zero_le _) (Nat.zero_le _) (cat_ok (Nat.le_of_ble_eq_true rfl)) rfl rfl ha_r7 dX0_turnedHalfRound_55 hf (fun r7 σ6 hk => ?_)
      replace hf := hk
      clear hk
      refine r_ior (x := v2) (y := r7) dX0_turnedHalfRound_58 ?_
      refine r_istore_n (L' := [(2, aI (v2 ||| r7)), (0, aR (some v0)), (1, aI v1), (3, aI v3), (4, aI v4)]) rfl rfl (Nat.le_of_ble_eq_true rfl) dX0_turnedHalfRound_59 ?_
      exact r_sub [1, 2, 0, 3, 4] rfl (b_X0_turnedHalfRound_60 hX4 hX15 hf)
def Z_X0_turnedHalfRound_15 (l : Launch) (G : GG) (d : Nat) (X4 : Nat → Int32 → Int32 → Int32 → Hp → Prop) (K : Int32 → Hp → Prop) : Nat → Nat → Int32 → Int32 → Int32 → Int32 → Hp → Prop
  | 0 => fun _ _ _ _ _ _ => False
  | n + 1 => fun v0 v1 v2 v3 v4 σ => F_X0_turnedHalfRound_15 l G d X4 (Z_X0_turnedHalfRound_15 l G d X4 K n) v0 v1 v2 v3 v4 σ K
theorem z_X0_turnedHalfRound_15 {l : Launch} {G : GG} {d : Nat} {X4 : Nat → Int32 → Int32 → Int32 → Hp → Prop} {K : Int32 → Hp → Prop} (hX4 : ∀ v0 v1 v2 v3 σ, X4 v0 v1 v2 v3 σ → Wd l G (d + 1) "CoinsLaid$Board" yX0_turnedHalfRound cX0_turnedHalfRound 5 (some FieldType.int) 4 [(0, aR (some v0)), (1, aI v1), (2, aI v2), (3, aI v3)] [] σ 0 0 (xM (QI K))) : ∀ (n : Nat) v0 v1 v2 v3 v4 σ, Z_X0_turnedHalfRound_15 l G d X4 K n v0 v1 v2 v3 v4 σ → Wd l G (d + 1) "CoinsLaid$Board" yX0_turnedHalfRound cX0_turnedHalfRound 5 (some FieldType.int) 15 [(0, aR (some v0)), (1, aI v1), (2, aI v2), (3, aI v3), (4, aI v4)] [] σ 0 0 (xM (QI K)) := by
  intro n
  induction n with
  | zero => intro v0 v1 v2 v3 v4 σ hf; exact hf.elim
  | succ n ih => intro v0 v1 v2 v3 v4 σ hf; exact b_X0_turnedHalfRound_15 hX4 ih hf
def F_X0_turnedHalfRound_4 (l : Launch) (G : GG) (d : Nat) (X4 : Nat → Int32 → Int32 → Int32 → Hp → Prop) (v0 : Nat) (v1 : Int32) (v2 : Int32) (v3 : Int32) (σ : Hp) (K : Int32 → Hp → Prop) : Prop :=
  fI σ v0 0 3 fun x8 =>
  ((x8 : Int32) ≤ (v3 : Int32) →
    K v2 σ) ∧
  (¬ (x8 : Int32) ≤ (v3 : Int32) →
    ∃ n, Z_X0_turnedHalfRound_15 l G d X4 K n v0 v1 v2 v3 0 σ)
set_option maxRecDepth 100000 in
set_option maxHeartbeats 4000000 in
theorem b_X0_turnedHalfRound_4 {l : Launch} {G : GG} {d : Nat} {X4 : Nat → Int32 → Int32 → Int32 → Hp → Prop} {v0 : Nat} {v1 : Int32} {v2 : Int32} {v3 : Int32} {σ : Hp} {K : Int32 → Hp → Prop} (hX4 : ∀ v0 v1 v2 v3 σ, X4 v0 v1 v2 v3 σ → Wd l G (d + 1) "CoinsLaid$Board" yX0_turnedHalfRound cX0_turnedHalfRound 5 (some FieldType.int) 4 [(0, aR (some v0)), (1, aI v1), (2, aI v2), (3, aI v3)] [] σ 0 0 (xM (QI K))) (hf : F_X0_turnedHalfRound_4 l G d X4 v0 v1 v2 v3 σ K) : Wd l G (d + 1) "CoinsLaid$Board" yX0_turnedHalfRound cX0_turnedHalfRound 5 (some FieldType.int) 4 [(0, aR (some v0)), (1, aI v1), (2, aI v2), (3, aI v3)] [] σ 0 0 (xM (QI K)) := by
  unfold F_X0_turnedHalfRound_4 at hf
  refine r_iload_n (j := 3) rfl rfl dX0_turnedHalfRound_4 ?_
  refine r_aload_n (j := 0) rfl rfl dX0_turnedHalfRound_5 ?_
  obtain ⟨fs_x8, x8, ha_x8, hv_x8, hf⟩ := hf
  refine r_get (Cn := RX0) (Tt := TX0) (N := 5) (n := 3) rfl uw_X0 (Nat.le_of_ble_eq_true rfl) wd_3_64 ha_x8 hv_x8 dX0_turnedHalfRound_6 ?_
  refine r_icmpge (x := v3) (y := x8) (tgt := 72) (by decide) dX0_turnedHalfRound_9 (fun hc => ?_) (fun hc => ?_)
  · replace hf := hf.1 hc
    refine r_iload_n (j := 2) rfl rfl dX0_turnedHalfRound_72 ?_
    exact r_ireturn rfl dX0_turnedHalfRound_73 rfl ⟨_, rfl, hf⟩
  · replace hf := hf.2 hc
    refine r_iconst (v := 0) (by decide) dX0_turnedHalfRound_12 ?_
    refine r_istore (L' := [(4, aI 0), (0, aR (some v0)), (1, aI v1), (2, aI v2), (3, aI v3)]) rfl (Nat.le_of_ble_eq_true rfl) dX0_turnedHalfRound_13 ?_
    obtain ⟨n, hf⟩ := hf
    exact r_sub [1, 2, 3, 4, 0] rfl (z_X0_turnedHalfRound_15 hX4 n _ _ _ _ _ _ hf)
def Z_X0_turnedHalfRound_4 (l : Launch) (G : GG) (d : Nat) (K : Int32 → Hp → Prop) : Nat → Nat → Int32 → Int32 → Int32 → Hp → Prop
  | 0 => fun _ _ _ _ _ => False
  | n + 1 => fun v0 v1 v2 v3 σ => F_X0_turnedHalfRound_4 l G d (Z_X0_turnedHalfRound_4 l G d K n) v0 v1 v2 v3 σ K
theorem z_X0_turnedHalfRound_4 {l : Launch} {G : GG} {d : Nat} {K : Int32 → Hp → Prop} : ∀ (n : Nat) v0 v1 v2 v3 σ, Z_X0_turnedHalfRound_4 l G d K n v0 v1 v2 v3 σ → Wd l G (d + 1) "CoinsLaid$Board" yX0_turnedHalfRound cX0_turnedHalfRound 5 (some FieldType.int) 4 [(0, aR (some v0)), (1, aI v1), (2, aI v2), (3, aI v3)] [] σ 0 0 (xM (QI K)) := by
  intro n
  induction n with
  | zero => intro v0 v1 v2 v3 σ hf; exact hf.elim
  | succ n ih => intro v0 v1 v2 v3 σ hf; exact b_X0_turnedHalfRound_4 ih hf
def F_X0_turnedHalfRound (l : Launch) (G : GG) (d : Nat) (v0 : Nat) (v1 : Int32) (σ : Hp) (K : Int32 → Hp → Prop) : Prop :=
  ∃ n, Z_X0_turnedHalfRound_4 l G d K n v0 v1 0 0 σ
set_option maxRecDepth 100000 in
set_option maxHeartbeats 4000000 in
theorem b_X0_turnedHalfRound_0 {l : Launch} {G : GG} {d : Nat} {v0 : Nat} {v1 : Int32} {σ : Hp} {K : Int32 → Hp → Prop} (hf : F_X0_turnedHalfRound l G d v0 v1 σ K) : Wd l G (d + 1) "CoinsLaid$Board" yX0_turnedHalfRound cX0_turnedHalfRound 5 (some FieldType.int) 0 [(0, aR (some v0)), (1, aI v1)] [] σ 0 0 (xM (QI K)) := by
  unfold F_X0_turnedHalfRound at hf
  refine r_iconst (v := 0) (by decide) dX0_turnedHalfRound_0 ?_
  refine r_istore_n (L' := [(2, aI 0), (0, aR (some v0)), (1, aI v1)]) rfl rfl (Nat.le_of_ble_eq_true rfl) dX0_turnedHalfRound_1 ?_
  refine r_iconst (v := 0) (by decide) dX0_turnedHalfRound_2 ?_
  refine r_istore_n (L' := [(3, aI 0), (2, aI 0), (0, aR (some v0)), (1, aI v1)]) rfl rfl (Nat.le_of_ble_eq_true rfl) dX0_turnedHalfRound_3 ?_
  obtain ⟨n, hf⟩ := hf
  exact r_sub [2, 3, 1, 0] rfl (z_X0_turnedHalfRound_4 n _ _ _ _ _ hf)
theorem m_X0_turnedHalfRound {l : Launch} {G : GG} {d : Nat} {v0 : Nat} {v1 : Int32} {σ : Hp} {K : Int32 → Hp → Prop} (hr : rv σ v0 0) (hf : F_X0_turnedHalfRound l G d v0 v1 σ K) : C_X0_turnedHalfRound l G (d + 1) v0 v1 σ K := ⟨hr, Sp.of (by decide) (Nat.le_of_ble_eq_true rfl) (b_X0_turnedHalfRound_0 hf) rfl⟩
def F_X0_withThoseBeside_78 (l : Launch) (G : GG) (d : Nat) (X4 : Nat → Int32 → Int32 → Int32 → Hp → Prop) (X15 : Nat → Int32 → Int32 → Int32 → Int32 → Hp → Prop) (v0 : Nat) (v1 : Int32) (v2 : Int32) (v3 : Int32) (v4 : Int32) (σ : Hp) (K : Int32 → Hp → Prop) : Prop :=
  X15 v0 v1 v2 v3 (v4 + 1) σ
set_option maxRecDepth 100000 in
set_option maxHeartbeats 4000000 in
theorem b_X0_withThoseBeside_78 {l : Launch} {G : GG} {d : Nat} {X4 : Nat → Int32 → Int32 → Int32 → Hp → Prop} {X15 : Nat → Int32 → Int32 → Int32 → Int32 → Hp → Prop} {v0 : Nat} {v1 : Int32} {v2 : Int32} {v3 : Int32} {v4 : Int32} {σ : Hp} {K : Int32 → Hp → Prop} (hX4 : ∀ v0 v1 v2 v3 σ, X4 v0 v1 v2 v3 σ → Wd l G (d + 1) "CoinsLaid$Board" yX0_withThoseBeside cX0_withThoseBeside 5 (some FieldType.int) 4 [(0, aR (some v0)), (1, aI v1), (2, aI v2), (3, aI v3)] [] σ 0 0 (xM (QI K))) (hX15 : ∀ v0 v1 v2 v3 v4 σ, X15 v0 v1 v2 v3 v4 σ → Wd l G (d + 1) "CoinsLaid$Board" yX0_withThoseBeside cX0_withThoseBeside 5 (some FieldType.int) 15 [(0, aR (some v0)), (1, aI v1), (2, aI v2), (3, aI v3), (4, aI v4)] [] σ 0 0 (xM (QI K))) (hf : F_X0_withThoseBeside_78 l G d X4 X15 v0 v1 v2 v3 v4 σ K) : Wd l G (d + 1) "CoinsLaid$Board" yX0_withThoseBeside cX0_withThoseBeside 5 (some FieldType.int) 78 [(0, aR (some v0)), (1, aI v1), (2, aI v2), (3, aI v3), (4, aI v4)] [] σ 0 0 (xM (QI K)) := by
  unfold F_X0_withThoseBeside_78 at hf
  refine r_iinc (j := 4) (w := (v4 + 1)) (L' := [(4, aI (v4 + 1)), (0, aR (some v0)), (1, aI v1), (2, aI v2), (3, aI v3)]) rfl (by rfl) rfl (Nat.le_of_ble_eq_true rfl) dX0_withThoseBeside_78 ?_
  refine r_goto (tgt := 15) (by decide) dX0_withThoseBeside_81 ?_
  exact r_sub [1, 2, 3, 4, 0] rfl (hX15 _ _ _ _ _ _ hf)
def F_X0_withThoseBeside_15 (l : Launch) (G : GG) (d : Nat) (X4 : Nat → Int32 → Int32 → Int32 → Hp → Prop) (X15 : Nat → Int32 → Int32 → Int32 → Int32 → Hp → Prop) (v0 : Nat) (v1 : Int32) (v2 : Int32) (v3 : Int32) (v4 : Int32) (σ : Hp) (K : Int32 → Hp → Prop) : Prop :=
  fI σ v0 0 2 fun x1 =>
  ((x1 : Int32) ≤ (v4 : Int32) →
    X4 v0 v1 v2 (v3 + 1) σ) ∧
  (¬ (x1 : Int32) ≤ (v4 : Int32) →
    C_X0_bit l G d v0 v4 v3 σ fun r3 σ2 =>
    (((v1 &&& r3) : Int32) = 0 →
      F_X0_withThoseBeside_78 l G d X4 X15 v0 v1 v2 v3 v4 σ2 K) ∧
    (¬ ((v1 &&& r3) : Int32) = 0 →
      C_X0_bit l G d v0 (v4 - 1) v3 σ2 fun r5 σ4 =>
      C_X0_bit l G d v0 (v4 + 1) v3 σ4 fun r7 σ6 =>
      C_X0_bit l G d v0 v4 (v3 - 1) σ6 fun r9 σ8 =>
      C_X0_bit l G d v0 v4 (v3 + 1) σ8 fun r11 σ10 =>
      F_X0_withThoseBeside_78 l G d X4 X15 v0 v1 (v2 ||| (((r5 ||| r7) ||| r9) ||| r11)) v3 v4 σ10 K))
set_option maxRecDepth 100000 in
set_option maxHeartbeats 4000000 in
theorem b_X0_withThoseBeside_15 {l : Launch} {G : GG} {d : Nat} {X4 : Nat → Int32 → Int32 → Int32 → Hp → Prop} {X15 : Nat → Int32 → Int32 → Int32 → Int32 → Hp → Prop} {v0 : Nat} {v1 : Int32} {v2 : Int32} {v3 : Int32} {v4 : Int32} {σ : Hp} {K : Int32 → Hp → Prop} (hX4 : ∀ v0 v1 v2 v3 σ, X4 v0 v1 v2 v3 σ → Wd l G (d + 1) "CoinsLaid$Board" yX0_withThoseBeside cX0_withThoseBeside 5 (some FieldType.int) 4 [(0, aR (some v0)), (1, aI v1), (2, aI v2), (3, aI v3)] [] σ 0 0 (xM (QI K))) (hX15 : ∀ v0 v1 v2 v3 v4 σ, X15 v0 v1 v2 v3 v4 σ → Wd l G (d + 1) "CoinsLaid$Board" yX0_withThoseBeside cX0_withThoseBeside 5 (some FieldType.int) 15 [(0, aR (some v0)), (1, aI v1), (2, aI v2), (3, aI v3), (4, aI v4)] [] σ 0 0 (xM (QI K))) (hf : F_X0_withThoseBeside_15 l G d X4 X15 v0 v1 v2 v3 v4 σ K) : Wd l G (d + 1) "CoinsLaid$Board" yX0_withThoseBeside cX0_withThoseBeside 5 (some FieldType.int) 15 [(0, aR (some v0)), (1, aI v1), (2, aI v2), (3, aI v3), (4, aI v4)] [] σ 0 0 (xM (QI K)) := by
  unfold F_X0_withThoseBeside_15 at hf
  refine r_iload (j := 4) rfl dX0_withThoseBeside_15 ?_
  refine r_aload_n (j := 0) rfl rfl dX0_withThoseBeside_17 ?_
  obtain ⟨fs_x1, x1, ha_x1, hv_x1, hf⟩ := hf
  refine r_get (Cn := RX0) (Tt := TX0) (N := 5) (n := 2) rfl uw_X0 (Nat.le_of_ble_eq_true rfl) wd_3_60 ha_x1 hv_x1 dX0_withThoseBeside_18 ?_
  refine r_icmpge (x := v4) (y := x1) (tgt := 84) (by decide) dX0_withThoseBeside_21 (fun hc => ?_) (fun hc => ?_)
  · replace hf := hf.1 hc
    refine r_iinc (j := 3) (w := (v3 + 1)) (L' := [(3, aI (v3 + 1)), (0, aR (some v0)), (1, aI v1), (2, aI v2), (4, aI v4)]) rfl (by rfl) rfl (Nat.le_of_ble_eq_true rfl) dX0_withThoseBeside_84 ?_
    refine r_goto (tgt := 4) (by decide) dX0_withThoseBeside_87 ?_
    exact r_sub [1, 2, 3, 0] rfl (hX4 _ _ _ _ _ hf)
  · replace hf := hf.2 hc
    refine r_iload_n (j := 1) rfl rfl dX0_withThoseBeside_24 ?_
    refine r_aload_n (j := 0) rfl rfl dX0_withThoseBeside_25 ?_
    refine r_iload (j := 4) rfl dX0_withThoseBeside_26 ?_
    refine r_iload_n (j := 3) rfl rfl dX0_withThoseBeside_28 ?_
    try unfold C_X0_bit at hf
    obtain ⟨⟨fs_r3, ha_r3⟩, hf⟩ := hf
    refine r_invVI (t := 0) (As := [aI v4, aI v3]) (dz := d) (mz := 0) (sz := 0) rfl wd_4_61 wd_3_162 wd_3_163 cf_X0_bit (Nat.le_refl _) (Nat.zero_le _) (Nat.zero_le _) (cat_ok (Nat.le_of_ble_eq_true rfl)) rfl rfl ha_r3 dX0_withThoseBeside_29 hf (fun r3 σ2 hk => ?_)
    replace hf := hk
    clear hk
    refine r_iand (x := v1) (y := r3) dX0_withThoseBeside_32 ?_
    refine r_ifeq (x := (v1 &&& r3)) (tgt := 78) (by decide) dX0_withThoseBeside_33 (fun hc => ?_) (fun hc => ?_)
    · replace hf := hf.1 hc
      exact r_sub [0, 1, 2, 3, 4] rfl (b_X0_withThoseBeside_78 hX4 hX15 hf)
    · replace hf := hf.2 hc
      refine r_iload_n (j := 2) rfl rfl dX0_withThoseBeside_36 ?_
      refine r_aload_n (j := 0) rfl rfl dX0_withThoseBeside_37 ?_
      refine r_iload (j := 4) rfl dX0_withThoseBeside_38 ?_
      refine r_iconst (v := 1) (by decide) dX0_withThoseBeside_40 ?_
      refine r_isub (x := v4) (y := 1) dX0_withThoseBeside_41 ?_
      refine r_iload_n (j := 3) rfl rfl dX0_withThoseBeside_42 ?_
      try unfold C_X0_bit at hf
      obtain ⟨⟨fs_r5, ha_r5⟩, hf⟩ := hf
      refine r_invVI (t := 0) (As := [aI (v4 - 1), aI v3]) (dz := d) (mz := 0) (sz := 0) rfl wd_4_61 wd_3_162 wd_3_163 cf_X0_bit (Nat.le_refl _) (Nat.zero_le _) (Nat.zero_le _) (cat_ok (Nat.le_of_ble_eq_true rfl)) rfl rfl ha_r5 dX0_withThoseBeside_43 hf (fun r5 σ4 hk => ?_)
      replace hf := hk
      clear hk
      refine r_aload_n (j := 0) rfl rfl dX0_withThoseBeside_46 ?_
      refine r_iload (j := 4) rfl dX0_withThoseBeside_47 ?_
      refine r_iconst (v := 1) (by decide) dX0_withThoseBeside_49 ?_
      refine r_iadd (x := v4) (y := 1) dX0_withThoseBeside_50 ?_
      refine r_iload_n (j := 3) rfl rfl dX0_withThoseBeside_51 ?_
      try unfold C_X0_bit at hf
      obtain ⟨⟨fs_r7, ha_r7⟩, hf⟩ := hf
      refine r_invVI (t := 0) (As := [aI (v4 + 1), aI v3]) (dz := d) (mz := 0) (sz := 0) rfl wd_4_61 wd_3_162 wd_3_163 cf_X0_bit (Nat.le_refl _) (Nat.zero_le _) (Nat.zero_le _) (cat_ok (Nat.le_of_ble_eq_true rfl)) rfl rfl ha_r7 dX0_withThoseBeside_52 hf (fun r7 σ6 hk => ?_)
      replace hf := hk
      clear hk
      refine r_ior (x := r5) (y := r7) dX0_withThoseBeside_55 ?_
      refine r_aload_n (j := 0) rfl rfl dX0_withThoseBeside_56 ?_
      refine r_iload (j := 4) rfl dX0_withThoseBeside_57 ?_
      refine r_iload_n (j := 3) rfl rfl dX0_withThoseBeside_59 ?_
      refine r_iconst (v := 1) (by decide) dX0_withThoseBeside_60 ?_
      refine r_isub (x := v3) (y := 1) dX0_withThoseBeside_61 ?_
      try unfold C_X0_bit at hf
      obtain ⟨⟨fs_r9, ha_r9⟩, hf⟩ := hf
      refine r_invVI (t := 0) (As := [aI v4, aI (v3 - 1)]) (dz := d) (mz := 0) (sz := 0) rfl wd_4_61 wd_3_162 wd_3_163 cf_X0_bit (Nat.le_refl _) (Nat.zero_le _) (Nat.zero_le _) (cat_ok (Nat.le_of_ble_eq_true rfl)) rfl rfl ha_r9 dX0_withThoseBeside_62 hf (fun r9 σ8 hk => ?_)
      replace hf := hk
      clear hk
      refine r_ior (x := (r5 ||| r7)) (y := r9) dX0_withThoseBeside_65 ?_
      refine r_aload_n (j := 0) rfl rfl dX0_withThoseBeside_66 ?_
      refine r_iload (j := 4) rfl dX0_withThoseBeside_67 ?_
      refine r_iload_n (j := 3) rfl rfl dX0_withThoseBeside_69 ?_
      refine r_iconst (v := 1) (by decide) dX0_withThoseBeside_70 ?_
      refine r_iadd (x := v3) (y := 1) dX0_withThoseBeside_71 ?_
      try unfold C_X0_bit at hf
      obtain ⟨⟨fs_r11, ha_r11⟩, hf⟩ := hf
      refine r_invVI (t := 0) (As := [aI v4, aI (v3 + 1)]) (dz := d) (mz := 0) (sz := 0) rfl wd_4_61 wd_3_162 wd_3_163 cf_X0_bit (Nat.le_refl _) (Nat.zero_le _) (Nat.zero_le _) (cat_ok (Nat.le_of_ble_eq_true rfl)) rfl rfl ha_r11 dX0_withThoseBeside_72 hf (fun r11 σ10 hk => ?_)
      replace hf := hk
      clear hk
      refine r_ior (x := ((r5 ||| r7) ||| r9)) (y := r11) dX0_withThoseBeside_75 ?_
      refine r_ior (x := v2) (y := (((r5 ||| r7) ||| r9) ||| r11)) dX0_withThoseBeside_76 ?_
      refine r_istore_n (L' := [(2, aI (v2 ||| (((r5 ||| r7) ||| r9) ||| r11))), (0, aR (some v0)), (1, aI v1), (3, aI v3), (4, aI v4)]) rfl rfl (Nat.le_of_ble_eq_true rfl) dX0_withThoseBeside_77 ?_
      exact r_sub [1, 2, 0, 3, 4] rfl (b_X0_withThoseBeside_78 hX4 hX15 hf)
def Z_X0_withThoseBeside_15 (l : Launch) (G : GG) (d : Nat) (X4 : Nat → Int32 → Int32 → Int32 → Hp → Prop) (K : Int32 → Hp → Prop) : Nat → Nat → Int32 → Int32 → Int32 → Int32 → Hp → Prop
  | 0 => fun _ _ _ _ _ _ => False
  | n + 1 => fun v0 v1 v2 v3 v4 σ => F_X0_withThoseBeside_15 l G d X4 (Z_X0_withThoseBeside_15 l G d X4 K n) v0 v1 v2 v3 v4 σ K
theorem z_X0_withThoseBeside_15 {l : Launch} {G : GG} {d : Nat} {X4 : Nat → Int32 → Int32 → Int32 → Hp → Prop} {K : Int32 → Hp → Prop} (hX4 : ∀ v0 v1 v2 v3 σ, X4 v0 v1 v2 v3 σ → Wd l G (d + 1) "CoinsLaid$Board" yX0_withThoseBeside cX0_withThoseBeside 5 (some FieldType.int) 4 [(0, aR (some v0)), (1, aI v1), (2, aI v2), (3, aI v3)] [] σ 0 0 (xM (QI K))) : ∀ (n : Nat) v0 v1 v2 v3 v4 σ, Z_X0_withThoseBeside_15 l G d X4 K n v0 v1 v2 v3 v4 σ → Wd l G (d + 1) "CoinsLaid$Board" yX0_withThoseBeside cX0_withThoseBeside 5 (some FieldType.int) 15 [(0, aR (some v0)), (1, aI v1), (2, aI v2), (3, aI v3), (4, aI v4)] [] σ 0 0 (xM (QI K)) := by
  intro n
  induction n with
  | zero => intro v0 v1 v2 v3 v4 σ hf; exact hf.elim
  | succ n ih => intro v0 v1 v2 v3 v4 σ hf; exact b_X0_withThoseBeside_15 hX4 ih hf
def F_X0_withThoseBeside_4 (l : Launch) (G : GG) (d : Nat) (X4 : Nat → Int32 → Int32 → Int32 → Hp → Prop) (v0 : Nat) (v1 : Int32) (v2 : Int32) (v3 : Int32) (σ : Hp) (K : Int32 → Hp → Prop) : Prop :=
  fI σ v0 0 3 fun x12 =>
  ((x12 : Int32) ≤ (v3 : Int32) →
    K v2 σ) ∧
  (¬ (x12 : Int32) ≤ (v3 : Int32) →
    ∃ n, Z_X0_withThoseBeside_15 l G d X4 K n v0 v1 v2 v3 0 σ)
set_option maxRecDepth 100000 in
set_option maxHeartbeats 4000000 in
theorem b_X0_withThoseBeside_4 {l : Launch} {G : GG} {d : Nat} {X4 : Nat → Int32 → Int32 → Int32 → Hp → Prop} {v0 : Nat} {v1 : Int32} {v2 : Int32} {v3 : Int32} {σ : Hp} {K : Int32 → Hp → Prop} (hX4 : ∀ v0 v1 v2 v3 σ, X4 v0 v1 v2 v3 σ → Wd l G (d + 1) "CoinsLaid$Board" yX0_withThoseBeside cX0_withThoseBeside 5 (some FieldType.int) 4 [(0, aR (some v0)), (1, aI v1), (2, aI v2), (3, aI v3)] [] σ 0 0 (xM (QI K))) (hf : F_X0_withThoseBeside_4 l G d X4 v0 v1 v2 v3 σ K) : Wd l G (d + 1) "CoinsLaid$Board" yX0_withThoseBeside cX0_withThoseBeside 5 (some FieldType.int) 4 [(0, aR (some v0)), (1, aI v1), (2, aI v2), (3, aI v3)] [] σ 0 0 (xM (QI K)) := by
  unfold F_X0_withThoseBeside_4 at hf
  refine r_iload_n (j := 3) rfl rfl dX0_withThoseBeside_4 ?_
  refine r_aload_n (j := 0) rfl rfl dX0_withThoseBeside_5 ?_
  obtain ⟨fs_x12, x12, ha_x12, hv_x12, hf⟩ := hf
  refine r_get (Cn := RX0) (Tt := TX0) (N := 5) (n := 3) rfl uw_X0 (Nat.le_of_ble_eq_true rfl) wd_3_64 ha_x12 hv_x12 dX0_withThoseBeside_6 ?_
  refine r_icmpge (x := v3) (y := x12) (tgt := 90) (by decide) dX0_withThoseBeside_9 (fun hc => ?_) (fun hc => ?_)
  · replace hf := hf.1 hc
    refine r_iload_n (j := 2) rfl rfl dX0_withThoseBeside_90 ?_
    exact r_ireturn rfl dX0_withThoseBeside_91 rfl ⟨_, rfl, hf⟩
  · replace hf := hf.2 hc
    refine r_iconst (v := 0) (by decide) dX0_withThoseBeside_12 ?_
    refine r_istore (L' := [(4, aI 0), (0, aR (some v0)), (1, aI v1), (2, aI v2), (3, aI v3)]) rfl (Nat.le_of_ble_eq_true rfl) dX0_withThoseBeside_13 ?_
    obtain ⟨n, hf⟩ := hf
    exact r_sub [1, 2, 3, 4, 0] rfl (z_X0_withThoseBeside_15 hX4 n _ _ _ _ _ _ hf)
def Z_X0_withThoseBeside_4 (l : Launch) (G : GG) (d : Nat) (K : Int32 → Hp → Prop) : Nat → Nat → Int32 → Int32 → Int32 → Hp → Prop
  | 0 => fun _ _ _ _ _ => False
  | n + 1 => fun v0 v1 v2 v3 σ => F_X0_withThoseBeside_4 l G d (Z_X0_withThoseBeside_4 l G d K n) v0 v1 v2 v3 σ K
theorem z_X0_withThoseBeside_4 {l : Launch} {G : GG} {d : Nat} {K : Int32 → Hp → Prop} : ∀ (n : Nat) v0 v1 v2 v3 σ, Z_X0_withThoseBeside_4 l G d K n v0 v1 v2 v3 σ → Wd l G (d + 1) "CoinsLaid$Board" yX0_withThoseBeside cX0_withThoseBeside 5 (some FieldType.int) 4 [(0, aR (some v0)), (1, aI v1), (2, aI v2), (3, aI v3)] [] σ 0 0 (xM (QI K)) := by
  intro n
  induction n with
  | zero => intro v0 v1 v2 v3 σ hf; exact hf.elim
  | succ n ih => intro v0 v1 v2 v3 σ hf; exact b_X0_withThoseBeside_4 ih hf
def F_X0_withThoseBeside (l : Launch) (G : GG) (d : Nat) (v0 : Nat) (v1 : Int32) (σ : Hp) (K : Int32 → Hp → Prop) : Prop :=
  ∃ n, Z_X0_withThoseBeside_4 l G d K n v0 v1 v1 0 σ
set_option maxRecDepth 100000 in
set_option maxHeartbeats 4000000 in
theorem b_X0_withThoseBeside_0 {l : Launch} {G : GG} {d : Nat} {v0 : Nat} {v1 : Int32} {σ : Hp} {K : Int32 → Hp → Prop} (hf : F_X0_withThoseBeside l G d v0 v1 σ K) : Wd l G (d + 1) "CoinsLaid$Board" yX0_withThoseBeside cX0_withThoseBeside 5 (some FieldType.int) 0 [(0, aR (some v0)), (1, aI v1)] [] σ 0 0 (xM (QI K)) := by
  unfold F_X0_withThoseBeside at hf
  refine r_iload_n (j := 1) rfl rfl dX0_withThoseBeside_0 ?_
  refine r_istore_n (L' := [(2, aI v1), (0, aR (some v0)), (1, aI v1)]) rfl rfl (Nat.le_of_ble_eq_true rfl) dX0_withThoseBeside_1 ?_
  refine r_iconst (v := 0) (by decide) dX0_withThoseBeside_2 ?_
  refine r_istore_n (L' := [(3, aI 0), (2, aI v1), (0, aR (some v0)), (1, aI v1)]) rfl rfl (Nat.le_of_ble_eq_true rfl) dX0_withThoseBeside_3 ?_
  obtain ⟨n, hf⟩ := hf
  exact r_sub [2, 3, 1, 0] rfl (z_X0_withThoseBeside_4 n _ _ _ _ _ hf)
theorem m_X0_withThoseBeside {l : Launch} {G : GG} {d : Nat} {v0 : Nat} {v1 : Int32} {σ : Hp} {K : Int32 → Hp → Prop} (hr : rv σ v0 0) (hf : F_X0_withThoseBeside l G d v0 v1 σ K) : C_X0_withThoseBeside l G (d + 1) v0 v1 σ K := ⟨hr, Sp.of (by decide) (Nat.le_of_ble_eq_true rfl) (b_X0_withThoseBeside_0 hf) rfl⟩
def F_X1_init (l : Launch) (G : GG) (d : Nat) (v0 : Nat) (σ : Hp) (bc bs : Nat) (K : Hp → Prop) : Prop :=
  nA_ 3 σ 14 bc bs fun N3 q1 σ2 =>
  pF σ2 v0 1 0 (aR (some q1)) fun σ4 =>
  K σ4
set_option maxRecDepth 100000 in
set_option maxHeartbeats 4000000 in
theorem b_X1_init_0 {l : Launch} {G : GG} {d : Nat} {v0 : Nat} {σ : Hp} {bc bs : Nat} {K : Hp → Prop} (hf : F_X1_init l G d v0 σ bc bs K) : Wd l G (d + 1) "CoinsLaid$Laid" yX1_init cX1_init 1 none 0 [(0, aR (some v0))] [] σ bc bs (xM (QV K)) := by
  unfold F_X1_init at hf
  refine r_aload_n (j := 0) rfl rfl dX1_init_0 ?_
  refine r_objInit wd_1_88 wd_1_37 wd_1_38 (Nat.le_add_left 1 d) (cat_ok (Nat.le_of_ble_eq_true rfl)) dX1_init_1 ?_
  refine r_aload_n (j := 0) rfl rfl dX1_init_4 ?_
  refine r_bipush (v := 14) (by decide) dX1_init_5 ?_
  obtain ⟨N3, hn_N3, hl_N3, hbc, hbs, hf⟩ := hf
  refine r_newA3 wd_1_89 hn_N3 hl_N3 hbc hbs dX1_init_7 (fun q1 hq_q1 => ?_)
  replace hf := hf q1 hq_q1
  refine Eq.mpr (congrArg (fun z => Wd _ _ _ _ _ _ _ _ _ _ _ z _ _ _) (rfl : _ = hset σ q1 (rA 3 N3 fun _ => none))) ?_
  generalize hset σ q1 (rA 3 N3 fun _ => none) = σ2 at hf ⊢
  obtain ⟨fs_x5, ha_x5, hf⟩ := hf
  generalize hσ4 : hset σ2 v0 (.inl (1, fs_x5.set 0 (aR (some q1)))) = σ4 at hf
  refine r_putF (Cn := RX1) (Tt := TX1) (N := 4) (n := 0) (v := aR (some q1)) rfl uw_X1 (Nat.le_of_ble_eq_true rfl) wd_1_91 ha_x5 (ty0 := tyX1) tyX1_ok nmX1 rfl rfl rfl (fo_A _ (some q1)) dX1_init_10 ?_
  rw [hσ4]
  exact r_return rfl dX1_init_13 rfl ⟨rfl, hf⟩
theorem m_X1_init {l : Launch} {G : GG} {d : Nat} {mc ms : Nat} {v0 : Nat} {σ : Hp} {K : Hp → Prop} (hf : F_X1_init l G d v0 σ mc ms K) : C_X1_init l G (d + 1) mc ms v0 σ K := Sp.of (by decide) (Nat.le_of_ble_eq_true rfl) (b_X1_init_0 hf) rfl
def F_X1_clear (l : Launch) (G : GG) (d : Nat) (v0 : Nat) (σ : Hp) (K : Hp → Prop) : Prop :=
  pF σ v0 1 1 (aI 0) fun σ1 =>
  pF σ1 v0 1 2 (aI 0) fun σ3 =>
  pF σ3 v0 1 3 (aI 0) fun σ5 =>
  K σ5
set_option maxRecDepth 100000 in
set_option maxHeartbeats 4000000 in
theorem b_X1_clear_0 {l : Launch} {G : GG} {d : Nat} {v0 : Nat} {σ : Hp} {K : Hp → Prop} (hf : F_X1_clear l G d v0 σ K) : Wd l G (d + 1) "CoinsLaid$Laid" yX1_clear cX1_clear 1 none 0 [(0, aR (some v0))] [] σ 0 0 (xM (QV K)) := by
  unfold F_X1_clear at hf
  refine r_aload_n (j := 0) rfl rfl dX1_clear_0 ?_
  refine r_iconst (v := 0) (by decide) dX1_clear_1 ?_
  obtain ⟨fs_x2, ha_x2, hf⟩ := hf
  generalize hσ1 : hset σ v0 (.inl (1, fs_x2.set 1 (aI 0))) = σ1 at hf
  refine r_put (Cn := RX1) (Tt := TX1) (N := 4) (n := 1) (v := aI 0) rfl uw_X1 (Nat.le_of_ble_eq_true rfl) wd_1_92 ha_x2 (ty0 := tyX1) tyX1_ok nmX1 rfl (fo_I 0) dX1_clear_2 ?_
  rw [hσ1]
  refine r_aload_n (j := 0) rfl rfl dX1_clear_5 ?_
  refine r_iconst (v := 0) (by decide) dX1_clear_6 ?_
  obtain ⟨fs_x4, ha_x4, hf⟩ := hf
  generalize hσ3 : hset σ1 v0 (.inl (1, fs_x4.set 2 (aI 0))) = σ3 at hf
  refine r_put (Cn := RX1) (Tt := TX1) (N := 4) (n := 2) (v := aI 0) rfl uw_X1 (Nat.le_of_ble_eq_true rfl) wd_1_95 ha_x4 (ty0 := tyX1) tyX1_ok nmX1 rfl (fo_I 0) dX1_clear_7 ?_
  rw [hσ3]
  refine r_aload_n (j := 0) rfl rfl dX1_clear_10 ?_
  refine r_iconst (v := 0) (by decide) dX1_clear_11 ?_
  obtain ⟨fs_x6, ha_x6, hf⟩ := hf
  generalize hσ5 : hset σ3 v0 (.inl (1, fs_x6.set 3 (aI 0))) = σ5 at hf
  refine r_put (Cn := RX1) (Tt := TX1) (N := 4) (n := 3) (v := aI 0) rfl uw_X1 (Nat.le_of_ble_eq_true rfl) wd_1_99 ha_x6 (ty0 := tyX1) tyX1_ok nmX1 rfl (fo_I 0) dX1_clear_12 ?_
  rw [hσ5]
  exact r_return rfl dX1_clear_15 rfl ⟨rfl, hf⟩
theorem m_X1_clear {l : Launch} {G : GG} {d : Nat} {v0 : Nat} {σ : Hp} {K : Hp → Prop} (hr : rv σ v0 1) (hf : F_X1_clear l G d v0 σ K) : C_X1_clear l G (d + 1) v0 σ K := ⟨hr, Sp.of (by decide) (Nat.le_of_ble_eq_true rfl) (b_X1_clear_0 hf) rfl⟩
def F_X1_copy_46 (l : Launch) (G : GG) (d : Nat) (v0 : Nat) (v1 : Nat) (σ : Hp) (K : Hp → Prop) : Prop :=
  fI σ v1 1 1 fun x1 =>
  pF σ v0 1 1 (aI x1) fun σ2 =>
  fI σ2 v1 1 2 fun x4 =>
  pF σ2 v0 1 2 (aI x4) fun σ5 =>
  fI σ5 v1 1 3 fun x7 =>
  pF σ5 v0 1 3 (aI x7) fun σ8 =>
  K σ8
set_option maxRecDepth 100000 in
set_option maxHeartbeats 4000000 in
theorem b_X1_copy_46 {l : Launch} {G : GG} {d : Nat} {v0 : Nat} {v1 : Nat} {σ : Hp} {K : Hp → Prop} (hf : F_X1_copy_46 l G d v0 v1 σ K) : Wd l G (d + 1) "CoinsLaid$Laid" yX1_copy cX1_copy 3 none 46 [(0, aR (some v0)), (1, aR (some v1))] [] σ 0 0 (xM (QV K)) := by
  unfold F_X1_copy_46 at hf
  refine r_aload_n (j := 0) rfl rfl dX1_copy_46 ?_
  refine r_aload_n (j := 1) rfl rfl dX1_copy_47 ?_
  obtain ⟨fs_x1, x1, ha_x1, hv_x1, hf⟩ := hf
  refine r_get (Cn := RX1) (Tt := TX1) (N := 4) (n := 1) rfl uw_X1 (Nat.le_of_ble_eq_true rfl) wd_1_92 ha_x1 hv_x1 dX1_copy_48 ?_
  obtain ⟨fs_x3, ha_x3, hf⟩ := hf
  generalize hσ2 : hset σ v0 (.inl (1, fs_x3.set 1 (aI x1))) = σ2 at hf
  refine r_put (Cn := RX1) (Tt := TX1) (N := 4) (n := 1) (v := aI x1) rfl uw_X1 (Nat.le_of_ble_eq_true rfl) wd_1_92 ha_x3 (ty0 := tyX1) tyX1_ok nmX1 rfl (fo_I x1) dX1_copy_51 ?_
  rw [hσ2]
  refine r_aload_n (j := 0) rfl rfl dX1_copy_54 ?_
  refine r_aload_n (j := 1) rfl rfl dX1_copy_55 ?_
  obtain ⟨fs_x4, x4, ha_x4, hv_x4, hf⟩ := hf
  refine r_get (Cn := RX1) (Tt := TX1) (N := 4) (n := 2) rfl uw_X1 (Nat.le_of_ble_eq_true rfl) wd_1_95 ha_x4 hv_x4 dX1_copy_56 ?_
  obtain ⟨fs_x6, ha_x6, hf⟩ := hf
  generalize hσ5 : hset σ2 v0 (.inl (1, fs_x6.set 2 (aI x4))) = σ5 at hf
  refine r_put (Cn := RX1) (Tt := TX1) (N := 4) (n := 2) (v := aI x4) rfl uw_X1 (Nat.le_of_ble_eq_true rfl) wd_1_95 ha_x6 (ty0 := tyX1) tyX1_ok nmX1 rfl (fo_I x4) dX1_copy_59 ?_
  rw [hσ5]
  refine r_aload_n (j := 0) rfl rfl dX1_copy_62 ?_
  refine r_aload_n (j := 1) rfl rfl dX1_copy_63 ?_
  obtain ⟨fs_x7, x7, ha_x7, hv_x7, hf⟩ := hf
  refine r_get (Cn := RX1) (Tt := TX1) (N := 4) (n := 3) rfl uw_X1 (Nat.le_of_ble_eq_true rfl) wd_1_99 ha_x7 hv_x7 dX1_copy_64 ?_
  obtain ⟨fs_x9, ha_x9, hf⟩ := hf
  generalize hσ8 : hset σ5 v0 (.inl (1, fs_x9.set 3 (aI x7))) = σ8 at hf
  refine r_put (Cn := RX1) (Tt := TX1) (N := 4) (n := 3) (v := aI x7) rfl uw_X1 (Nat.le_of_ble_eq_true rfl) wd_1_99 ha_x9 (ty0 := tyX1) tyX1_ok nmX1 rfl (fo_I x7) dX1_copy_67 ?_
  rw [hσ8]
  exact r_return rfl dX1_copy_70 rfl ⟨rfl, hf⟩
def F_X1_copy_2 (l : Launch) (G : GG) (d : Nat) (X2 : Nat → Nat → Int32 → Hp → Prop) (v0 : Nat) (v1 : Nat) (v2 : Int32) (σ : Hp) (K : Hp → Prop) : Prop :=
  fI σ v1 1 1 fun x10 =>
  ((x10 : Int32) ≤ (v2 : Int32) →
    F_X1_copy_46 l G d v0 v1 σ K) ∧
  (¬ (x10 : Int32) ≤ (v2 : Int32) →
    fN σ v0 1 0 fun x11 =>
    aL σ x11 fun x12 =>
    ((x12 : Int32) ≤ (v2 : Int32) →
      F_X1_copy_46 l G d v0 v1 σ K) ∧
    (¬ (x12 : Int32) ≤ (v2 : Int32) →
      fN σ v1 1 0 fun x13 =>
      aL σ x13 fun x14 =>
      ((x14 : Int32) ≤ (v2 : Int32) →
        F_X1_copy_46 l G d v0 v1 σ K) ∧
      (¬ (x14 : Int32) ≤ (v2 : Int32) →
        fN σ v0 1 0 fun x15 =>
        fN σ v1 1 0 fun x16 =>
        gN 3 σ x16 v2 fun x17 =>
        sN 3 2 σ x15 v2 x17 fun σ18 =>
        X2 v0 v1 (v2 + 1) σ18)))
set_option maxRecDepth 100000 in
set_option maxHeartbeats 4000000 in
theorem b_X1_copy_2 {l : Launch} {G : GG} {d : Nat} {X2 : Nat → Nat → Int32 → Hp → Prop} {v0 : Nat} {v1 : Nat} {v2 : Int32} {σ : Hp} {K : Hp → Prop} (hX2 : ∀ v0 v1 v2 σ, X2 v0 v1 v2 σ → Wd l G (d + 1) "CoinsLaid$Laid" yX1_copy cX1_copy 3 none 2 [(0, aR (some v0)), (1, aR (some v1)), (2, aI v2)] [] σ 0 0 (xM (QV K))) (hf : F_X1_copy_2 l G d X2 v0 v1 v2 σ K) : Wd l G (d + 1) "CoinsLaid$Laid" yX1_copy cX1_copy 3 none 2 [(0, aR (some v0)), (1, aR (some v1)), (2, aI v2)] [] σ 0 0 (xM (QV K)) := by
  unfold F_X1_copy_2 at hf
  refine r_iload_n (j := 2) rfl rfl dX1_copy_2 ?_
  refine r_aload_n (j := 1) rfl rfl dX1_copy_3 ?_
  obtain ⟨fs_x10, x10, ha_x10, hv_x10, hf⟩ := hf
  refine r_get (Cn := RX1) (Tt := TX1) (N := 4) (n := 1) rfl uw_X1 (Nat.le_of_ble_eq_true rfl) wd_1_92 ha_x10 hv_x10 dX1_copy_4 ?_
  refine r_icmpge (x := v2) (y := x10) (tgt := 46) (by decide) dX1_copy_7 (fun hc => ?_) (fun hc => ?_)
  · replace hf := hf.1 hc
    exact r_sub [0, 1] rfl (b_X1_copy_46 hf)
  · replace hf := hf.2 hc
    refine r_iload_n (j := 2) rfl rfl dX1_copy_10 ?_
    refine r_aload_n (j := 0) rfl rfl dX1_copy_11 ?_
    obtain ⟨fs_x11, x11, ha_x11, hv_x11, hf⟩ := hf
    refine r_get (Cn := RX1) (Tt := TX1) (N := 4) (n := 0) rfl uw_X1 (Nat.le_of_ble_eq_true rfl) wd_1_91 ha_x11 hv_x11 dX1_copy_12 ?_
    obtain ⟨t_x12, N_x12, f_x12, ha_x12, hf⟩ := hf
    refine r_alen ha_x12 dX1_copy_15 ?_
    generalize nI N_x12 = x12 at hf ⊢
    refine r_icmpge (x := v2) (y := x12) (tgt := 46) (by decide) dX1_copy_16 (fun hc => ?_) (fun hc => ?_)
    · replace hf := hf.1 hc
      exact r_sub [0, 1] rfl (b_X1_copy_46 hf)
    · replace hf := hf.2 hc
      refine r_iload_n (j := 2) rfl rfl dX1_copy_19 ?_
      refine r_aload_n (j := 1) rfl rfl dX1_copy_20 ?_
      obtain ⟨fs_x13, x13, ha_x13, hv_x13, hf⟩ := hf
      refine r_get (Cn := RX1) (Tt := TX1) (N := 4) (n := 0) rfl uw_X1 (Nat.le_of_ble_eq_true rfl) wd_1_91 ha_x13 hv_x13 dX1_copy_21 ?_
      obtain ⟨t_x14, N_x14, f_x14, ha_x14, hf⟩ := hf
      refine r_alen ha_x14 dX1_copy_24 ?_
      generalize nI N_x14 = x14 at hf ⊢
      refine r_icmpge (x := v2) (y := x14) (tgt := 46) (by decide) dX1_copy_25 (fun hc => ?_) (fun hc => ?_)
      · replace hf := hf.1 hc
        exact r_sub [0, 1] rfl (b_X1_copy_46 hf)
      · replace hf := hf.2 hc
        refine r_aload_n (j := 0) rfl rfl dX1_copy_28 ?_
        obtain ⟨fs_x15, x15, ha_x15, hv_x15, hf⟩ := hf
        refine r_get (Cn := RX1) (Tt := TX1) (N := 4) (n := 0) rfl uw_X1 (Nat.le_of_ble_eq_true rfl) wd_1_91 ha_x15 hv_x15 dX1_copy_29 ?_
        refine r_iload_n (j := 2) rfl rfl dX1_copy_32 ?_
        refine r_aload_n (j := 1) rfl rfl dX1_copy_33 ?_
        obtain ⟨fs_x16, x16, ha_x16, hv_x16, hf⟩ := hf
        refine r_get (Cn := RX1) (Tt := TX1) (N := 4) (n := 0) rfl uw_X1 (Nat.le_of_ble_eq_true rfl) wd_1_91 ha_x16 hv_x16 dX1_copy_34 ?_
        refine r_iload_n (j := 2) rfl rfl dX1_copy_37 ?_
        obtain ⟨N_x17, f_x17, x17, ha_x17, hi_x17, hv_x17, hf⟩ := hf
        refine r_aald3 ha_x17 hi_x17 dX1_copy_38 ?_
        rw [hv_x17]
        obtain ⟨N_x19, f_x19, ha_x19, ⟨vs_x19, hx_x19⟩, hi_x19, hf⟩ := hf
        generalize hσ18 : hset σ x15 (rA 3 N_x19 (up_ f_x19 (v2 : Int32).toNatClampNeg (some x17))) = σ18 at hf
        refine r_aast3 (f := f_x19) (x := x17) ha_x19 hx_x19 hi_x19 dX1_copy_39 ?_
        refine Eq.mpr (congrArg (fun z => Wd _ _ _ _ _ _ _ _ _ _ _ z _ _ _) hσ18) ?_
        refine r_iinc (j := 2) (w := (v2 + 1)) (L' := [(2, aI (v2 + 1)), (0, aR (some v0)), (1, aR (some v1))]) rfl (by rfl) rfl (Nat.le_of_ble_eq_true rfl) dX1_copy_40 ?_
        refine r_goto (tgt := 2) (by decide) dX1_copy_43 ?_
        exact r_sub [1, 2, 0] rfl (hX2 _ _ _ _ hf)
def Z_X1_copy_2 (l : Launch) (G : GG) (d : Nat) (K : Hp → Prop) : Nat → Nat → Nat → Int32 → Hp → Prop
  | 0 => fun _ _ _ _ => False
  | n + 1 => fun v0 v1 v2 σ => F_X1_copy_2 l G d (Z_X1_copy_2 l G d K n) v0 v1 v2 σ K
theorem z_X1_copy_2 {l : Launch} {G : GG} {d : Nat} {K : Hp → Prop} : ∀ (n : Nat) v0 v1 v2 σ, Z_X1_copy_2 l G d K n v0 v1 v2 σ → Wd l G (d + 1) "CoinsLaid$Laid" yX1_copy cX1_copy 3 none 2 [(0, aR (some v0)), (1, aR (some v1)), (2, aI v2)] [] σ 0 0 (xM (QV K)) := by
  intro n
  induction n with
  | zero => intro v0 v1 v2 σ hf; exact hf.elim
  | succ n ih => intro v0 v1 v2 σ hf; exact b_X1_copy_2 ih hf
def F_X1_copy (l : Launch) (G : GG) (d : Nat) (v0 : Nat) (v1 : Nat) (σ : Hp) (K : Hp → Prop) : Prop :=
  ∃ n, Z_X1_copy_2 l G d K n v0 v1 0 σ
set_option maxRecDepth 100000 in
set_option maxHeartbeats 4000000 in
theorem b_X1_copy_0 {l : Launch} {G : GG} {d : Nat} {v0 : Nat} {v1 : Nat} {σ : Hp} {K : Hp → Prop} (hf : F_X1_copy l G d v0 v1 σ K) : Wd l G (d + 1) "CoinsLaid$Laid" yX1_copy cX1_copy 3 none 0 [(0, aR (some v0)), (1, aR (some v1))] [] σ 0 0 (xM (QV K)) := by
  unfold F_X1_copy at hf
  refine r_iconst (v := 0) (by decide) dX1_copy_0 ?_
  refine r_istore_n (L' := [(2, aI 0), (0, aR (some v0)), (1, aR (some v1))]) rfl rfl (Nat.le_of_ble_eq_true rfl) dX1_copy_1 ?_
  obtain ⟨n, hf⟩ := hf
  exact r_sub [1, 2, 0] rfl (z_X1_copy_2 n _ _ _ _ hf)
theorem m_X1_copy {l : Launch} {G : GG} {d : Nat} {v0 : Nat} {v1 : Nat} {σ : Hp} {K : Hp → Prop} (hr : rv σ v0 1) (hf : F_X1_copy l G d v0 v1 σ K) : C_X1_copy l G (d + 1) v0 v1 σ K := ⟨hr, Sp.of (by decide) (Nat.le_of_ble_eq_true rfl) (b_X1_copy_0 hf) rfl⟩
def F_X1_at_31 (l : Launch) (G : GG) (d : Nat) (s0 : Option Nat) (σ : Hp) (K : Option Nat → Hp → Prop) : Prop :=
  K s0 σ
set_option maxRecDepth 100000 in
set_option maxHeartbeats 4000000 in
theorem b_X1_at_31 {l : Launch} {G : GG} {d : Nat} {s0 : Option Nat} {σ : Hp} {K : Option Nat → Hp → Prop} (hf : F_X1_at_31 l G d s0 σ K) : Wd l G (d + 1) "CoinsLaid$Laid" yX1_at cX1_at 2 (some (FieldType.object "CoinsLaid$Lay")) 31 [] [aR s0] σ 0 0 (xM (QR K)) := by
  unfold F_X1_at_31 at hf
  exact r_areturn rfl (Or.inl ⟨_, rfl⟩) dX1_at_31 rfl ⟨_, rfl, hf⟩
def F_X1_at_30 (l : Launch) (G : GG) (d : Nat) (σ : Hp) (K : Option Nat → Hp → Prop) : Prop :=
  F_X1_at_31 l G d none σ K
set_option maxRecDepth 100000 in
set_option maxHeartbeats 4000000 in
theorem b_X1_at_30 {l : Launch} {G : GG} {d : Nat} {σ : Hp} {K : Option Nat → Hp → Prop} (hf : F_X1_at_30 l G d  σ K) : Wd l G (d + 1) "CoinsLaid$Laid" yX1_at cX1_at 2 (some (FieldType.object "CoinsLaid$Lay")) 30 [] [] σ 0 0 (xM (QR K)) := by
  unfold F_X1_at_30 at hf
  refine r_null dX1_at_30 ?_
  exact r_sub [] rfl (b_X1_at_31 hf)
def F_X1_at (l : Launch) (G : GG) (d : Nat) (v0 : Nat) (v1 : Int32) (σ : Hp) (K : Option Nat → Hp → Prop) : Prop :=
  ((v1 : Int32) < 0 →
    F_X1_at_30 l G d σ K) ∧
  (¬ (v1 : Int32) < 0 →
    fI σ v0 1 1 fun x1 =>
    ((x1 : Int32) ≤ (v1 : Int32) →
      F_X1_at_30 l G d σ K) ∧
    (¬ (x1 : Int32) ≤ (v1 : Int32) →
      fN σ v0 1 0 fun x2 =>
      aL σ x2 fun x3 =>
      ((x3 : Int32) ≤ (v1 : Int32) →
        F_X1_at_30 l G d σ K) ∧
      (¬ (x3 : Int32) ≤ (v1 : Int32) →
        fN σ v0 1 0 fun x4 =>
        gN 3 σ x4 v1 fun x5 =>
        F_X1_at_31 l G d (some x5) σ K)))
set_option maxRecDepth 100000 in
set_option maxHeartbeats 4000000 in
theorem b_X1_at_0 {l : Launch} {G : GG} {d : Nat} {v0 : Nat} {v1 : Int32} {σ : Hp} {K : Option Nat → Hp → Prop} (hf : F_X1_at l G d v0 v1 σ K) : Wd l G (d + 1) "CoinsLaid$Laid" yX1_at cX1_at 2 (some (FieldType.object "CoinsLaid$Lay")) 0 [(0, aR (some v0)), (1, aI v1)] [] σ 0 0 (xM (QR K)) := by
  unfold F_X1_at at hf
  refine r_iload_n (j := 1) rfl rfl dX1_at_0 ?_
  refine r_iflt (x := v1) (tgt := 30) (by decide) dX1_at_1 (fun hc => ?_) (fun hc => ?_)
  · replace hf := hf.1 hc
    exact r_sub [] rfl (b_X1_at_30 hf)
  · replace hf := hf.2 hc
    refine r_iload_n (j := 1) rfl rfl dX1_at_4 ?_
    refine r_aload_n (j := 0) rfl rfl dX1_at_5 ?_
    obtain ⟨fs_x1, x1, ha_x1, hv_x1, hf⟩ := hf
    refine r_get (Cn := RX1) (Tt := TX1) (N := 4) (n := 1) rfl uw_X1 (Nat.le_of_ble_eq_true rfl) wd_1_92 ha_x1 hv_x1 dX1_at_6 ?_
    refine r_icmpge (x := v1) (y := x1) (tgt := 30) (by decide) dX1_at_9 (fun hc => ?_) (fun hc => ?_)
    · replace hf := hf.1 hc
      exact r_sub [] rfl (b_X1_at_30 hf)
    · replace hf := hf.2 hc
      refine r_iload_n (j := 1) rfl rfl dX1_at_12 ?_
      refine r_aload_n (j := 0) rfl rfl dX1_at_13 ?_
      obtain ⟨fs_x2, x2, ha_x2, hv_x2, hf⟩ := hf
      refine r_get (Cn := RX1) (Tt := TX1) (N := 4) (n := 0) rfl uw_X1 (Nat.le_of_ble_eq_true rfl) wd_1_91 ha_x2 hv_x2 dX1_at_14 ?_
      obtain ⟨t_x3, N_x3, f_x3, ha_x3, hf⟩ := hf
      refine r_alen ha_x3 dX1_at_17 ?_
      generalize nI N_x3 = x3 at hf ⊢
      refine r_icmpge (x := v1) (y := x3) (tgt := 30) (by decide) dX1_at_18 (fun hc => ?_) (fun hc => ?_)
      · replace hf := hf.1 hc
        exact r_sub [] rfl (b_X1_at_30 hf)
      · replace hf := hf.2 hc
        refine r_aload_n (j := 0) rfl rfl dX1_at_21 ?_
        obtain ⟨fs_x4, x4, ha_x4, hv_x4, hf⟩ := hf
        refine r_get (Cn := RX1) (Tt := TX1) (N := 4) (n := 0) rfl uw_X1 (Nat.le_of_ble_eq_true rfl) wd_1_91 ha_x4 hv_x4 dX1_at_22 ?_
        refine r_iload_n (j := 1) rfl rfl dX1_at_25 ?_
        obtain ⟨N_x5, f_x5, x5, ha_x5, hi_x5, hv_x5, hf⟩ := hf
        refine r_aald3 ha_x5 hi_x5 dX1_at_26 ?_
        rw [hv_x5]
        refine r_goto (tgt := 31) (by decide) dX1_at_27 ?_
        exact r_sub [] rfl (b_X1_at_31 hf)
theorem m_X1_at {l : Launch} {G : GG} {d : Nat} {v0 : Nat} {v1 : Int32} {σ : Hp} {K : Option Nat → Hp → Prop} (hr : rv σ v0 1) (hf : F_X1_at l G d v0 v1 σ K) : C_X1_at l G (d + 1) v0 v1 σ K := ⟨hr, Sp.of (by decide) (Nat.le_of_ble_eq_true rfl) (b_X1_at_0 hf) rfl⟩
def F_X1_latest (l : Launch) (G : GG) (d : Nat) (v0 : Nat) (σ : Hp) (K : Option Nat → Hp → Prop) : Prop :=
  fI σ v0 1 1 fun x1 =>
  C_X1_at l G d v0 (x1 - 1) σ fun r3 σ2 =>
  K r3 σ2
set_option maxRecDepth 100000 in
set_option maxHeartbeats 4000000 in
theorem b_X1_latest_0 {l : Launch} {G : GG} {d : Nat} {v0 : Nat} {σ : Hp} {K : Option Nat → Hp → Prop} (hf : F_X1_latest l G d v0 σ K) : Wd l G (d + 1) "CoinsLaid$Laid" yX1_latest cX1_latest 1 (some (FieldType.object "CoinsLaid$Lay")) 0 [(0, aR (some v0))] [] σ 0 0 (xM (QR K)) := by
  unfold F_X1_latest at hf
  refine r_aload_n (j := 0) rfl rfl dX1_latest_0 ?_
  refine r_aload_n (j := 0) rfl rfl dX1_latest_1 ?_
  obtain ⟨fs_x1, x1, ha_x1, hv_x1, hf⟩ := hf
  refine r_get (Cn := RX1) (Tt := TX1) (N := 4) (n := 1) rfl uw_X1 (Nat.le_of_ble_eq_true rfl) wd_1_92 ha_x1 hv_x1 dX1_latest_2 ?_
  refine r_iconst (v := 1) (by decide) dX1_latest_5 ?_
  refine r_isub (x := x1) (y := 1) dX1_latest_6 ?_
  try unfold C_X1_at at hf
  obtain ⟨⟨fs_r3, ha_r3⟩, hf⟩ := hf
  refine r_invVR (t := 1) (As := [aI (x1 - 1)]) (dz := d) (mz := 0) (sz := 0) rfl wd_5_230 wd_5_231 wd_5_232 cf_X1_at (Nat.le_refl _) (Nat.zero_le _) (Nat.zero_le _) (cat_ok (Nat.le_of_ble_eq_true rfl)) rfl rfl ha_r3 dX1_latest_7 hf (fun r3 σ2 hk => ?_)
  replace hf := hk
  clear hk
  exact r_areturn rfl (Or.inl ⟨_, rfl⟩) dX1_latest_10 rfl ⟨_, rfl, hf⟩
theorem m_X1_latest {l : Launch} {G : GG} {d : Nat} {v0 : Nat} {σ : Hp} {K : Option Nat → Hp → Prop} (hr : rv σ v0 1) (hf : F_X1_latest l G d v0 σ K) : C_X1_latest l G (d + 1) v0 σ K := ⟨hr, Sp.of (by decide) (Nat.le_of_ble_eq_true rfl) (b_X1_latest_0 hf) rfl⟩
def F_X1_next (l : Launch) (G : GG) (d : Nat) (v0 : Nat) (σ : Hp) (K : Int32 → Hp → Prop) : Prop :=
  fI σ v0 1 1 fun x1 =>
  K (x1 &&& 1) σ
set_option maxRecDepth 100000 in
set_option maxHeartbeats 4000000 in
theorem b_X1_next_0 {l : Launch} {G : GG} {d : Nat} {v0 : Nat} {σ : Hp} {K : Int32 → Hp → Prop} (hf : F_X1_next l G d v0 σ K) : Wd l G (d + 1) "CoinsLaid$Laid" yX1_next cX1_next 1 (some FieldType.int) 0 [(0, aR (some v0))] [] σ 0 0 (xM (QI K)) := by
  unfold F_X1_next at hf
  refine r_aload_n (j := 0) rfl rfl dX1_next_0 ?_
  obtain ⟨fs_x1, x1, ha_x1, hv_x1, hf⟩ := hf
  refine r_get (Cn := RX1) (Tt := TX1) (N := 4) (n := 1) rfl uw_X1 (Nat.le_of_ble_eq_true rfl) wd_1_92 ha_x1 hv_x1 dX1_next_1 ?_
  refine r_iconst (v := 1) (by decide) dX1_next_4 ?_
  refine r_iand (x := x1) (y := 1) dX1_next_5 ?_
  exact r_ireturn rfl dX1_next_6 rfl ⟨_, rfl, hf⟩
theorem m_X1_next {l : Launch} {G : GG} {d : Nat} {v0 : Nat} {σ : Hp} {K : Int32 → Hp → Prop} (hr : rv σ v0 1) (hf : F_X1_next l G d v0 σ K) : C_X1_next l G (d + 1) v0 σ K := ⟨hr, Sp.of (by decide) (Nat.le_of_ble_eq_true rfl) (b_X1_next_0 hf) rfl⟩
def F_X1_add_56 (l : Launch) (G : GG) (d : Nat) (σ : Hp) (K : Hp → Prop) : Prop :=
  K σ
set_option maxRecDepth 100000 in
set_option maxHeartbeats 4000000 in
theorem b_X1_add_56 {l : Launch} {G : GG} {d : Nat} {σ : Hp} {K : Hp → Prop} (hf : F_X1_add_56 l G d  σ K) : Wd l G (d + 1) "CoinsLaid$Laid" yX1_add cX1_add 2 none 56 [] [] σ 0 0 (xM (QV K)) := by
  unfold F_X1_add_56 at hf
  exact r_return rfl dX1_add_56 rfl ⟨rfl, hf⟩
def F_X1_add (l : Launch) (G : GG) (d : Nat) (v0 : Nat) (v1 : Option Nat) (σ : Hp) (K : Hp → Prop) : Prop :=
  (v1 = none →
    F_X1_add_56 l G d σ K) ∧
  (∀ b1, v1 = some b1 →
    fI σ v0 1 1 fun x2 =>
    ((x2 : Int32) < 0 →
      F_X1_add_56 l G d σ K) ∧
    (¬ (x2 : Int32) < 0 →
      fI σ v0 1 1 fun x3 =>
      fN σ v0 1 0 fun x4 =>
      aL σ x4 fun x5 =>
      ((x5 : Int32) ≤ (x3 : Int32) →
        F_X1_add_56 l G d σ K) ∧
      (¬ (x5 : Int32) ≤ (x3 : Int32) →
        fN σ v0 1 0 fun x6 =>
        fI σ v0 1 1 fun x7 =>
        sN 3 2 σ x6 x7 b1 fun σ8 =>
        fI σ8 v0 1 1 fun x10 =>
        pF σ8 v0 1 1 (aI (x10 + 1)) fun σ11 =>
        fI σ11 v0 1 2 fun x13 =>
        fI σ11 b1 2 6 fun x14 =>
        pF σ11 v0 1 2 (aI (x13 ||| x14)) fun σ15 =>
        F_X1_add_56 l G d σ15 K)))
set_option maxRecDepth 100000 in
set_option maxHeartbeats 4000000 in
theorem b_X1_add_0 {l : Launch} {G : GG} {d : Nat} {v0 : Nat} {v1 : Option Nat} {σ : Hp} {K : Hp → Prop} (hf : F_X1_add l G d v0 v1 σ K) : Wd l G (d + 1) "CoinsLaid$Laid" yX1_add cX1_add 2 none 0 [(0, aR (some v0)), (1, aR v1)] [] σ 0 0 (xM (QV K)) := by
  unfold F_X1_add at hf
  refine r_aload_n (j := 1) rfl rfl dX1_add_0 ?_
  refine r_ifnull (o := v1) (tgt := 56) (by decide) dX1_add_1 (fun hc => ?_) (fun b1 hc => ?_)
  · replace hf := hf.1 hc
    subst hc
    exact r_sub [] rfl (b_X1_add_56 hf)
  · replace hf := hf.2 b1 hc
    subst hc
    refine r_aload_n (j := 0) rfl rfl dX1_add_4 ?_
    obtain ⟨fs_x2, x2, ha_x2, hv_x2, hf⟩ := hf
    refine r_get (Cn := RX1) (Tt := TX1) (N := 4) (n := 1) rfl uw_X1 (Nat.le_of_ble_eq_true rfl) wd_1_92 ha_x2 hv_x2 dX1_add_5 ?_
    refine r_iflt (x := x2) (tgt := 56) (by decide) dX1_add_8 (fun hc => ?_) (fun hc => ?_)
    · replace hf := hf.1 hc
      exact r_sub [] rfl (b_X1_add_56 hf)
    · replace hf := hf.2 hc
      refine r_aload_n (j := 0) rfl rfl dX1_add_11 ?_
      obtain ⟨fs_x3, x3, ha_x3, hv_x3, hf⟩ := hf
      refine r_get (Cn := RX1) (Tt := TX1) (N := 4) (n := 1) rfl uw_X1 (Nat.le_of_ble_eq_true rfl) wd_1_92 ha_x3 hv_x3 dX1_add_12 ?_
      refine r_aload_n (j := 0) rfl rfl dX1_add_15 ?_
      obtain ⟨fs_x4, x4, ha_x4, hv_x4, hf⟩ := hf
      refine r_get (Cn := RX1) (Tt := TX1) (N := 4) (n := 0) rfl uw_X1 (Nat.le_of_ble_eq_true rfl) wd_1_91 ha_x4 hv_x4 dX1_add_16 ?_
      obtain ⟨t_x5, N_x5, f_x5, ha_x5, hf⟩ := hf
      refine r_alen ha_x5 dX1_add_19 ?_
      generalize nI N_x5 = x5 at hf ⊢
      refine r_icmpge (x := x3) (y := x5) (tgt := 56) (by decide) dX1_add_20 (fun hc => ?_) (fun hc => ?_)
      · replace hf := hf.1 hc
        exact r_sub [] rfl (b_X1_add_56 hf)
      · replace hf := hf.2 hc
        refine r_aload_n (j := 0) rfl rfl dX1_add_23 ?_
        obtain ⟨fs_x6, x6, ha_x6, hv_x6, hf⟩ := hf
        refine r_get (Cn := RX1) (Tt := TX1) (N := 4) (n := 0) rfl uw_X1 (Nat.le_of_ble_eq_true rfl) wd_1_91 ha_x6 hv_x6 dX1_add_24 ?_
        refine r_aload_n (j := 0) rfl rfl dX1_add_27 ?_
        obtain ⟨fs_x7, x7, ha_x7, hv_x7, hf⟩ := hf
        refine r_get (Cn := RX1) (Tt := TX1) (N := 4) (n := 1) rfl uw_X1 (Nat.le_of_ble_eq_true rfl) wd_1_92 ha_x7 hv_x7 dX1_add_28 ?_
        refine r_aload_n (j := 1) rfl rfl dX1_add_31 ?_
        obtain ⟨N_x9, f_x9, ha_x9, ⟨vs_x9, hx_x9⟩, hi_x9, hf⟩ := hf
        generalize hσ8 : hset σ x6 (rA 3 N_x9 (up_ f_x9 (x7 : Int32).toNatClampNeg (some b1))) = σ8 at hf
        refine r_aast3 (f := f_x9) (x := b1) ha_x9 hx_x9 hi_x9 dX1_add_32 ?_
        refine Eq.mpr (congrArg (fun z => Wd _ _ _ _ _ _ _ _ _ _ _ z _ _ _) hσ8) ?_
        refine r_aload_n (j := 0) rfl rfl dX1_add_33 ?_
        refine r_dup rfl dX1_add_34 ?_
        obtain ⟨fs_x10, x10, ha_x10, hv_x10, hf⟩ := hf
        refine r_get (Cn := RX1) (Tt := TX1) (N := 4) (n := 1) rfl uw_X1 (Nat.le_of_ble_eq_true rfl) wd_1_92 ha_x10 hv_x10 dX1_add_35 ?_
        refine r_iconst (v := 1) (by decide) dX1_add_38 ?_
        refine r_iadd (x := x10) (y := 1) dX1_add_39 ?_
        obtain ⟨fs_x12, ha_x12, hf⟩ := hf
        generalize hσ11 : hset σ8 v0 (.inl (1, fs_x12.set 1 (aI (x10 + 1)))) = σ11 at hf
        refine r_put (Cn := RX1) (Tt := TX1) (N := 4) (n := 1) (v := aI (x10 + 1)) rfl uw_X1 (Nat.le_of_ble_eq_true rfl) wd_1_92 ha_x12 (ty0 := tyX1) tyX1_ok nmX1 rfl (fo_I (x10 + 1)) dX1_add_40 ?_
        rw [hσ11]
        refine r_aload_n (j := 0) rfl rfl dX1_add_43 ?_
        refine r_dup rfl dX1_add_44 ?_
        obtain ⟨fs_x13, x13, ha_x13, hv_x13, hf⟩ := hf
        refine r_get (Cn := RX1) (Tt := TX1) (N := 4) (n := 2) rfl uw_X1 (Nat.le_of_ble_eq_true rfl) wd_1_95 ha_x13 hv_x13 dX1_add_45 ?_
        refine r_aload_n (j := 1) rfl rfl dX1_add_48 ?_
        obtain ⟨fs_x14, x14, ha_x14, hv_x14, hf⟩ := hf
        refine r_get (Cn := RX2) (Tt := TX2) (N := 9) (n := 6) rfl uw_X2 (Nat.le_of_ble_eq_true rfl) wd_4_30 ha_x14 hv_x14 dX1_add_49 ?_
        refine r_ior (x := x13) (y := x14) dX1_add_52 ?_
        obtain ⟨fs_x16, ha_x16, hf⟩ := hf
        generalize hσ15 : hset σ11 v0 (.inl (1, fs_x16.set 2 (aI (x13 ||| x14)))) = σ15 at hf
        refine r_put (Cn := RX1) (Tt := TX1) (N := 4) (n := 2) (v := aI (x13 ||| x14)) rfl uw_X1 (Nat.le_of_ble_eq_true rfl) wd_1_95 ha_x16 (ty0 := tyX1) tyX1_ok nmX1 rfl (fo_I (x13 ||| x14)) dX1_add_53 ?_
        rw [hσ15]
        exact r_sub [] rfl (b_X1_add_56 hf)
theorem m_X1_add {l : Launch} {G : GG} {d : Nat} {v0 : Nat} {v1 : Option Nat} {σ : Hp} {K : Hp → Prop} (hr : rv σ v0 1) (hf : F_X1_add l G d v0 v1 σ K) : C_X1_add l G (d + 1) v0 v1 σ K := ⟨hr, Sp.of (by decide) (Nat.le_of_ble_eq_true rfl) (b_X1_add_0 hf) rfl⟩
def F_X1_dropLatest_34 (l : Launch) (G : GG) (d : Nat) (σ : Hp) (K : Hp → Prop) : Prop :=
  K σ
set_option maxRecDepth 100000 in
set_option maxHeartbeats 4000000 in
theorem b_X1_dropLatest_34 {l : Launch} {G : GG} {d : Nat} {σ : Hp} {K : Hp → Prop} (hf : F_X1_dropLatest_34 l G d  σ K) : Wd l G (d + 1) "CoinsLaid$Laid" yX1_dropLatest cX1_dropLatest 2 none 34 [] [] σ 0 0 (xM (QV K)) := by
  unfold F_X1_dropLatest_34 at hf
  exact r_return rfl dX1_dropLatest_34 rfl ⟨rfl, hf⟩
def F_X1_dropLatest (l : Launch) (G : GG) (d : Nat) (v0 : Nat) (σ : Hp) (K : Hp → Prop) : Prop :=
  C_X1_latest l G d v0 σ fun r2 σ1 =>
  (r2 = none →
    F_X1_dropLatest_34 l G d σ1 K) ∧
  (∀ b3, r2 = some b3 →
    fI σ1 v0 1 1 fun x4 =>
    pF σ1 v0 1 1 (aI (x4 - 1)) fun σ5 =>
    fI σ5 v0 1 2 fun x7 =>
    fI σ5 b3 2 6 fun x8 =>
    pF σ5 v0 1 2 (aI (x7 &&& (x8 ^^^ (-1)))) fun σ9 =>
    F_X1_dropLatest_34 l G d σ9 K)
set_option maxRecDepth 100000 in
set_option maxHeartbeats 4000000 in
theorem b_X1_dropLatest_0 {l : Launch} {G : GG} {d : Nat} {v0 : Nat} {σ : Hp} {K : Hp → Prop} (hf : F_X1_dropLatest l G d v0 σ K) : Wd l G (d + 1) "CoinsLaid$Laid" yX1_dropLatest cX1_dropLatest 2 none 0 [(0, aR (some v0))] [] σ 0 0 (xM (QV K)) := by
  unfold F_X1_dropLatest at hf
  refine r_aload_n (j := 0) rfl rfl dX1_dropLatest_0 ?_
  try unfold C_X1_latest at hf
  obtain ⟨⟨fs_r2, ha_r2⟩, hf⟩ := hf
  refine r_invVR (t := 1) (As := []) (dz := d) (mz := 0) (sz := 0) rfl wd_6_55 wd_5_227 wd_5_228 cf_X1_latest (Nat.le_refl _) (Nat.zero_le _) (Nat.zero_le _) (cat_ok (Nat.le_of_ble_eq_true rfl)) rfl rfl ha_r2 dX1_dropLatest_1 hf (fun r2 σ1 hk => ?_)
  replace hf := hk
  clear hk
  refine r_astore_n (L' := [(1, aR r2), (0, aR (some v0))]) rfl rfl (Nat.le_of_ble_eq_true rfl) dX1_dropLatest_4 ?_
  refine r_aload_n (j := 0) rfl rfl dX1_dropLatest_5 ?_
  refine r_ifnull (o := r2) (tgt := 34) (by decide) dX1_dropLatest_6 (fun hc => ?_) (fun b3 hc => ?_)
  · replace hf := hf.1 hc
    subst hc
    exact r_sub [] rfl (b_X1_dropLatest_34 hf)
  · replace hf := hf.2 b3 hc
    subst hc
    refine r_aload_n (j := 1) rfl rfl dX1_dropLatest_9 ?_
    refine r_dup rfl dX1_dropLatest_10 ?_
    obtain ⟨fs_x4, x4, ha_x4, hv_x4, hf⟩ := hf
    refine r_get (Cn := RX1) (Tt := TX1) (N := 4) (n := 1) rfl uw_X1 (Nat.le_of_ble_eq_true rfl) wd_1_92 ha_x4 hv_x4 dX1_dropLatest_11 ?_
    refine r_iconst (v := 1) (by decide) dX1_dropLatest_14 ?_
    refine r_isub (x := x4) (y := 1) dX1_dropLatest_15 ?_
    obtain ⟨fs_x6, ha_x6, hf⟩ := hf
    generalize hσ5 : hset σ1 v0 (.inl (1, fs_x6.set 1 (aI (x4 - 1)))) = σ5 at hf
    refine r_put (Cn := RX1) (Tt := TX1) (N := 4) (n := 1) (v := aI (x4 - 1)) rfl uw_X1 (Nat.le_of_ble_eq_true rfl) wd_1_92 ha_x6 (ty0 := tyX1) tyX1_ok nmX1 rfl (fo_I (x4 - 1)) dX1_dropLatest_16 ?_
    rw [hσ5]
    refine r_aload_n (j := 1) rfl rfl dX1_dropLatest_19 ?_
    refine r_dup rfl dX1_dropLatest_20 ?_
    obtain ⟨fs_x7, x7, ha_x7, hv_x7, hf⟩ := hf
    refine r_get (Cn := RX1) (Tt := TX1) (N := 4) (n := 2) rfl uw_X1 (Nat.le_of_ble_eq_true rfl) wd_1_95 ha_x7 hv_x7 dX1_dropLatest_21 ?_
    refine r_aload_n (j := 0) rfl rfl dX1_dropLatest_24 ?_
    obtain ⟨fs_x8, x8, ha_x8, hv_x8, hf⟩ := hf
    refine r_get (Cn := RX2) (Tt := TX2) (N := 9) (n := 6) rfl uw_X2 (Nat.le_of_ble_eq_true rfl) wd_4_30 ha_x8 hv_x8 dX1_dropLatest_25 ?_
    refine r_iconst (v := (-1)) (by decide) dX1_dropLatest_28 ?_
    refine r_ixor (x := x8) (y := (-1)) dX1_dropLatest_29 ?_
    refine r_iand (x := x7) (y := (x8 ^^^ (-1))) dX1_dropLatest_30 ?_
    obtain ⟨fs_x10, ha_x10, hf⟩ := hf
    generalize hσ9 : hset σ5 v0 (.inl (1, fs_x10.set 2 (aI (x7 &&& (x8 ^^^ (-1)))))) = σ9 at hf
    refine r_put (Cn := RX1) (Tt := TX1) (N := 4) (n := 2) (v := aI (x7 &&& (x8 ^^^ (-1)))) rfl uw_X1 (Nat.le_of_ble_eq_true rfl) wd_1_95 ha_x10 (ty0 := tyX1) tyX1_ok nmX1 rfl (fo_I (x7 &&& (x8 ^^^ (-1)))) dX1_dropLatest_31 ?_
    rw [hσ9]
    exact r_sub [] rfl (b_X1_dropLatest_34 hf)
theorem m_X1_dropLatest {l : Launch} {G : GG} {d : Nat} {v0 : Nat} {σ : Hp} {K : Hp → Prop} (hr : rv σ v0 1) (hf : F_X1_dropLatest l G d v0 σ K) : C_X1_dropLatest l G (d + 1) v0 σ K := ⟨hr, Sp.of (by decide) (Nat.le_of_ble_eq_true rfl) (b_X1_dropLatest_0 hf) rfl⟩
def F_X1_draw (l : Launch) (G : GG) (d : Nat) (v0 : Nat) (σ : Hp) (K : Int32 → Hp → Prop) : Prop :=
  fI σ v0 1 3 fun x1 =>
  ¬ (65537 : Int32) = 0 ∧
  pF σ v0 1 3 (aI (((75 * x1) + 74) - ((75 * x1) + 74) / 65537 * 65537)) fun σ2 =>
  fI σ2 v0 1 3 fun x4 =>
  K x4 σ2
set_option maxRecDepth 100000 in
set_option maxHeartbeats 4000000 in
theorem b_X1_draw_0 {l : Launch} {G : GG} {d : Nat} {v0 : Nat} {σ : Hp} {K : Int32 → Hp → Prop} (hf : F_X1_draw l G d v0 σ K) : Wd l G (d + 1) "CoinsLaid$Laid" yX1_draw cX1_draw 1 (some FieldType.int) 0 [(0, aR (some v0))] [] σ 0 0 (xM (QI K)) := by
  unfold F_X1_draw at hf
  refine r_aload_n (j := 0) rfl rfl dX1_draw_0 ?_
  refine r_bipush (v := 75) (by decide) dX1_draw_1 ?_
  refine r_aload_n (j := 0) rfl rfl dX1_draw_3 ?_
  obtain ⟨fs_x1, x1, ha_x1, hv_x1, hf⟩ := hf
  refine r_get (Cn := RX1) (Tt := TX1) (N := 4) (n := 3) rfl uw_X1 (Nat.le_of_ble_eq_true rfl) wd_1_99 ha_x1 hv_x1 dX1_draw_4 ?_
  refine r_imul (x := 75) (y := x1) dX1_draw_7 ?_
  refine r_bipush (v := 74) (by decide) dX1_draw_8 ?_
  refine r_iadd (x := (75 * x1)) (y := 74) dX1_draw_10 ?_
  refine r_ldc wd_6_1 dX1_draw_11 ?_
  obtain ⟨hne, hf⟩ := hf
  refine r_irem hne dX1_draw_13 ?_
  obtain ⟨fs_x3, ha_x3, hf⟩ := hf
  generalize hσ2 : hset σ v0 (.inl (1, fs_x3.set 3 (aI (((75 * x1) + 74) - ((75 * x1) + 74) / 65537 * 65537)))) = σ2 at hf
  refine r_put (Cn := RX1) (Tt := TX1) (N := 4) (n := 3) (v := aI (((75 * x1) + 74) - ((75 * x1) + 74) / 65537 * 65537)) rfl uw_X1 (Nat.le_of_ble_eq_true rfl) wd_1_99 ha_x3 (ty0 := tyX1) tyX1_ok nmX1 rfl (fo_I (((75 * x1) + 74) - ((75 * x1) + 74) / 65537 * 65537)) dX1_draw_14 ?_
  rw [hσ2]
  refine r_aload_n (j := 0) rfl rfl dX1_draw_17 ?_
  obtain ⟨fs_x4, x4, ha_x4, hv_x4, hf⟩ := hf
  refine r_get (Cn := RX1) (Tt := TX1) (N := 4) (n := 3) rfl uw_X1 (Nat.le_of_ble_eq_true rfl) wd_1_99 ha_x4 hv_x4 dX1_draw_18 ?_
  exact r_ireturn rfl dX1_draw_21 rfl ⟨_, rfl, hf⟩
theorem m_X1_draw {l : Launch} {G : GG} {d : Nat} {v0 : Nat} {σ : Hp} {K : Int32 → Hp → Prop} (hr : rv σ v0 1) (hf : F_X1_draw l G d v0 σ K) : C_X1_draw l G (d + 1) v0 σ K := ⟨hr, Sp.of (by decide) (Nat.le_of_ble_eq_true rfl) (b_X1_draw_0 hf) rfl⟩
def F_X2_init (l : Launch) (G : GG) (d : Nat) (v0 : Nat) (v1 : Int32) (v2 : Nat) (v3 : Nat) (v4 : Int32) (v5 : Int32) (v6 : Int32) (v7 : Int32) (σ : Hp) (K : Hp → Prop) : Prop :=
  pF σ v0 2 0 (aI v1) fun σ1 =>
  pF σ1 v0 2 1 (aR (some v2)) fun σ3 =>
  pF σ3 v0 2 2 (aR (some v3)) fun σ5 =>
  pF σ5 v0 2 3 (aI v4) fun σ7 =>
  pF σ7 v0 2 4 (aI v5) fun σ9 =>
  pF σ9 v0 2 5 (aI v6) fun σ11 =>
  pF σ11 v0 2 6 (aI v7) fun σ13 =>
  pF σ13 v0 2 7 (aI v7) fun σ15 =>
  K σ15
set_option maxRecDepth 100000 in
set_option maxHeartbeats 4000000 in
theorem b_X2_init_0 {l : Launch} {G : GG} {d : Nat} {v0 : Nat} {v1 : Int32} {v2 : Nat} {v3 : Nat} {v4 : Int32} {v5 : Int32} {v6 : Int32} {v7 : Int32} {σ : Hp} {K : Hp → Prop} (hf : F_X2_init l G d v0 v1 v2 v3 v4 v5 v6 v7 σ K) : Wd l G (d + 1) "CoinsLaid$Lay" yX2_init cX2_init 8 none 0 [(0, aR (some v0)), (1, aI v1), (2, aR (some v2)), (3, aR (some v3)), (4, aI v4), (5, aI v5), (6, aI v6), (7, aI v7)] [] σ 0 0 (xM (QV K)) := by
  unfold F_X2_init at hf
  refine r_aload_n (j := 0) rfl rfl dX2_init_0 ?_
  refine r_objInit wd_4_18 wd_1_37 wd_1_38 (Nat.le_add_left 1 d) (cat_ok (Nat.le_of_ble_eq_true rfl)) dX2_init_1 ?_
  refine r_aload_n (j := 0) rfl rfl dX2_init_4 ?_
  refine r_iload_n (j := 1) rfl rfl dX2_init_5 ?_
  obtain ⟨fs_x2, ha_x2, hf⟩ := hf
  generalize hσ1 : hset σ v0 (.inl (2, fs_x2.set 0 (aI v1))) = σ1 at hf
  refine r_putF (Cn := RX2) (Tt := TX2) (N := 9) (n := 0) (v := aI v1) rfl uw_X2 (Nat.le_of_ble_eq_true rfl) wd_4_19 ha_x2 (ty0 := tyX2) tyX2_ok nmX2 rfl rfl rfl (fo_I v1) dX2_init_6 ?_
  rw [hσ1]
  refine r_aload_n (j := 0) rfl rfl dX2_init_9 ?_
  refine r_aload_n (j := 2) rfl rfl dX2_init_10 ?_
  obtain ⟨fs_x4, ha_x4, hf⟩ := hf
  generalize hσ3 : hset σ1 v0 (.inl (2, fs_x4.set 1 (aR (some v2)))) = σ3 at hf
  refine r_putF (Cn := RX2) (Tt := TX2) (N := 9) (n := 1) (v := aR (some v2)) rfl uw_X2 (Nat.le_of_ble_eq_true rfl) wd_4_21 ha_x4 (ty0 := tyX2) tyX2_ok nmX2 rfl rfl rfl (fo_R _ (some v2)) dX2_init_11 ?_
  rw [hσ3]
  refine r_aload_n (j := 0) rfl rfl dX2_init_14 ?_
  refine r_aload_n (j := 3) rfl rfl dX2_init_15 ?_
  obtain ⟨fs_x6, ha_x6, hf⟩ := hf
  generalize hσ5 : hset σ3 v0 (.inl (2, fs_x6.set 2 (aR (some v3)))) = σ5 at hf
  refine r_putF (Cn := RX2) (Tt := TX2) (N := 9) (n := 2) (v := aR (some v3)) rfl uw_X2 (Nat.le_of_ble_eq_true rfl) wd_4_23 ha_x6 (ty0 := tyX2) tyX2_ok nmX2 rfl rfl rfl (fo_R _ (some v3)) dX2_init_16 ?_
  rw [hσ5]
  refine r_aload_n (j := 0) rfl rfl dX2_init_19 ?_
  refine r_iload (j := 4) rfl dX2_init_20 ?_
  obtain ⟨fs_x8, ha_x8, hf⟩ := hf
  generalize hσ7 : hset σ5 v0 (.inl (2, fs_x8.set 3 (aI v4))) = σ7 at hf
  refine r_putF (Cn := RX2) (Tt := TX2) (N := 9) (n := 3) (v := aI v4) rfl uw_X2 (Nat.le_of_ble_eq_true rfl) wd_4_25 ha_x8 (ty0 := tyX2) tyX2_ok nmX2 rfl rfl rfl (fo_I v4) dX2_init_22 ?_
  rw [hσ7]
  refine r_aload_n (j := 0) rfl rfl dX2_init_25 ?_
  refine r_iload (j := 5) rfl dX2_init_26 ?_
  obtain ⟨fs_x10, ha_x10, hf⟩ := hf
  generalize hσ9 : hset σ7 v0 (.inl (2, fs_x10.set 4 (aI v5))) = σ9 at hf
  refine r_putF (Cn := RX2) (Tt := TX2) (N := 9) (n := 4) (v := aI v5) rfl uw_X2 (Nat.le_of_ble_eq_true rfl) wd_4_26 ha_x10 (ty0 := tyX2) tyX2_ok nmX2 rfl rfl rfl (fo_I v5) dX2_init_28 ?_
  rw [hσ9]
  refine r_aload_n (j := 0) rfl rfl dX2_init_31 ?_
  refine r_iload (j := 6) rfl dX2_init_32 ?_
  obtain ⟨fs_x12, ha_x12, hf⟩ := hf
  generalize hσ11 : hset σ9 v0 (.inl (2, fs_x12.set 5 (aI v6))) = σ11 at hf
  refine r_putF (Cn := RX2) (Tt := TX2) (N := 9) (n := 5) (v := aI v6) rfl uw_X2 (Nat.le_of_ble_eq_true rfl) wd_4_27 ha_x12 (ty0 := tyX2) tyX2_ok nmX2 rfl rfl rfl (fo_I v6) dX2_init_34 ?_
  rw [hσ11]
  refine r_aload_n (j := 0) rfl rfl dX2_init_37 ?_
  refine r_iload (j := 7) rfl dX2_init_38 ?_
  obtain ⟨fs_x14, ha_x14, hf⟩ := hf
  generalize hσ13 : hset σ11 v0 (.inl (2, fs_x14.set 6 (aI v7))) = σ13 at hf
  refine r_putF (Cn := RX2) (Tt := TX2) (N := 9) (n := 6) (v := aI v7) rfl uw_X2 (Nat.le_of_ble_eq_true rfl) wd_4_28 ha_x14 (ty0 := tyX2) tyX2_ok nmX2 rfl rfl rfl (fo_I v7) dX2_init_40 ?_
  rw [hσ13]
  refine r_aload_n (j := 0) rfl rfl dX2_init_43 ?_
  refine r_iload (j := 7) rfl dX2_init_44 ?_
  obtain ⟨fs_x16, ha_x16, hf⟩ := hf
  generalize hσ15 : hset σ13 v0 (.inl (2, fs_x16.set 7 (aI v7))) = σ15 at hf
  refine r_put (Cn := RX2) (Tt := TX2) (N := 9) (n := 7) (v := aI v7) rfl uw_X2 (Nat.le_of_ble_eq_true rfl) wd_4_33 ha_x16 (ty0 := tyX2) tyX2_ok nmX2 rfl (fo_I v7) dX2_init_46 ?_
  rw [hσ15]
  exact r_return rfl dX2_init_49 rfl ⟨rfl, hf⟩
theorem m_X2_init {l : Launch} {G : GG} {d : Nat} {v0 : Nat} {v1 : Int32} {v2 : Nat} {v3 : Nat} {v4 : Int32} {v5 : Int32} {v6 : Int32} {v7 : Int32} {σ : Hp} {K : Hp → Prop} (hf : F_X2_init l G d v0 v1 v2 v3 v4 v5 v6 v7 σ K) : C_X2_init l G (d + 1) v0 v1 v2 v3 v4 v5 v6 v7 σ K := Sp.of (by decide) (Nat.le_of_ble_eq_true rfl) (b_X2_init_0 hf) rfl
def F_X2_part (l : Launch) (G : GG) (d : Nat) (v0 : Nat) (v1 : Int32) (σ : Hp) (K : Int32 → Hp → Prop) : Prop :=
  ((v1 : Int32) = 0 →
    fN σ v0 2 1 fun x1 =>
    fI σ x1 5 0 fun x2 =>
    K x2 σ) ∧
  ((v1 : Int32) = 1 →
    fN σ v0 2 2 fun x3 =>
    fI σ x3 0 0 fun x4 =>
    K x4 σ) ∧
  ((v1 : Int32) = 2 →
    fI σ v0 2 3 fun x5 =>
    K x5 σ) ∧
  ((v1 : Int32) = 3 →
    fI σ v0 2 4 fun x6 =>
    K x6 σ) ∧
  ((v1 : Int32) = 4 →
    fI σ v0 2 5 fun x7 =>
    K x7 σ) ∧
  (¬ (v1 : Int32) = 0 → ¬ (v1 : Int32) = 1 → ¬ (v1 : Int32) = 2 → ¬ (v1 : Int32) = 3 → ¬ (v1 : Int32) = 4 →
    fI σ v0 2 6 fun x8 =>
    K x8 σ)
set_option maxRecDepth 100000 in
set_option maxHeartbeats 4000000 in
theorem b_X2_part_0 {l : Launch} {G : GG} {d : Nat} {v0 : Nat} {v1 : Int32} {σ : Hp} {K : Int32 → Hp → Prop} (hf : F_X2_part l G d v0 v1 σ K) : Wd l G (d + 1) "CoinsLaid$Lay" yX2_part cX2_part 2 (some FieldType.int) 0 [(0, aR (some v0)), (1, aI v1)] [] σ 0 0 (xM (QI K)) := by
  unfold F_X2_part at hf
  refine r_iload_n (j := 1) rfl rfl dX2_part_0 ?_
  by_cases hc0 : (v1 : Int32) = 0
  · replace hf := hf.1 hc0
    refine r_tabIn (tgt := 36) (off := 35) (by rw [hc0]; decide) (by rw [hc0]; decide) (by rw [hc0]; decide) (by decide) dX2_part_1 ?_
    refine r_aload_n (j := 0) rfl rfl dX2_part_36 ?_
    obtain ⟨fs_x1, x1, ha_x1, hv_x1, hf⟩ := hf
    refine r_get (Cn := RX2) (Tt := TX2) (N := 9) (n := 1) rfl uw_X2 (Nat.le_of_ble_eq_true rfl) wd_4_21 ha_x1 hv_x1 dX2_part_37 ?_
    obtain ⟨fs_x2, x2, ha_x2, hv_x2, hf⟩ := hf
    refine r_get (Cn := RX5) (Tt := TX5) (N := 7) (n := 0) rfl uw_X5 (Nat.le_of_ble_eq_true rfl) wd_3_184 ha_x2 hv_x2 dX2_part_40 ?_
    exact r_ireturn rfl dX2_part_43 rfl ⟨_, rfl, hf⟩
  by_cases hc1 : (v1 : Int32) = 1
  · replace hf := hf.2.1 hc1
    refine r_tabIn (tgt := 44) (off := 43) (by rw [hc1]; decide) (by rw [hc1]; decide) (by rw [hc1]; decide) (by decide) dX2_part_1 ?_
    refine r_aload_n (j := 0) rfl rfl dX2_part_44 ?_
    obtain ⟨fs_x3, x3, ha_x3, hv_x3, hf⟩ := hf
    refine r_get (Cn := RX2) (Tt := TX2) (N := 9) (n := 2) rfl uw_X2 (Nat.le_of_ble_eq_true rfl) wd_4_23 ha_x3 hv_x3 dX2_part_45 ?_
    obtain ⟨fs_x4, x4, ha_x4, hv_x4, hf⟩ := hf
    refine r_get (Cn := RX0) (Tt := TX0) (N := 5) (n := 0) rfl uw_X0 (Nat.le_of_ble_eq_true rfl) wd_3_56 ha_x4 hv_x4 dX2_part_48 ?_
    exact r_ireturn rfl dX2_part_51 rfl ⟨_, rfl, hf⟩
  by_cases hc2 : (v1 : Int32) = 2
  · replace hf := hf.2.2.1 hc2
    refine r_tabIn (tgt := 52) (off := 51) (by rw [hc2]; decide) (by rw [hc2]; decide) (by rw [hc2]; decide) (by decide) dX2_part_1 ?_
    refine r_aload_n (j := 0) rfl rfl dX2_part_52 ?_
    obtain ⟨fs_x5, x5, ha_x5, hv_x5, hf⟩ := hf
    refine r_get (Cn := RX2) (Tt := TX2) (N := 9) (n := 3) rfl uw_X2 (Nat.le_of_ble_eq_true rfl) wd_4_25 ha_x5 hv_x5 dX2_part_53 ?_
    exact r_ireturn rfl dX2_part_56 rfl ⟨_, rfl, hf⟩
  by_cases hc3 : (v1 : Int32) = 3
  · replace hf := hf.2.2.2.1 hc3
    refine r_tabIn (tgt := 57) (off := 56) (by rw [hc3]; decide) (by rw [hc3]; decide) (by rw [hc3]; decide) (by decide) dX2_part_1 ?_
    refine r_aload_n (j := 0) rfl rfl dX2_part_57 ?_
    obtain ⟨fs_x6, x6, ha_x6, hv_x6, hf⟩ := hf
    refine r_get (Cn := RX2) (Tt := TX2) (N := 9) (n := 4) rfl uw_X2 (Nat.le_of_ble_eq_true rfl) wd_4_26 ha_x6 hv_x6 dX2_part_58 ?_
    exact r_ireturn rfl dX2_part_61 rfl ⟨_, rfl, hf⟩
  by_cases hc4 : (v1 : Int32) = 4
  · replace hf := hf.2.2.2.2.1 hc4
    refine r_tabIn (tgt := 62) (off := 61) (by rw [hc4]; decide) (by rw [hc4]; decide) (by rw [hc4]; decide) (by decide) dX2_part_1 ?_
    refine r_aload_n (j := 0) rfl rfl dX2_part_62 ?_
    obtain ⟨fs_x7, x7, ha_x7, hv_x7, hf⟩ := hf
    refine r_get (Cn := RX2) (Tt := TX2) (N := 9) (n := 5) rfl uw_X2 (Nat.le_of_ble_eq_true rfl) wd_4_27 ha_x7 hv_x7 dX2_part_63 ?_
    exact r_ireturn rfl dX2_part_66 rfl ⟨_, rfl, hf⟩
  replace hf := hf.2.2.2.2.2 hc0 hc1 hc2 hc3 hc4
  refine r_tabOut (x := v1) (tgt := 67) (tab_out (tab_cons (lo' := 1) (tab_ne hc0 (by decide)) (by decide) (tab_cons (lo' := 2) (tab_ne hc1 (by decide)) (by decide) (tab_cons (lo' := 3) (tab_ne hc2 (by decide)) (by decide) (tab_cons (lo' := 4) (tab_ne hc3 (by decide)) (by decide) (tab_cons (lo' := 5) (tab_ne hc4 (by decide)) (by decide) (tab_nil (by decide)))))))) (by decide) dX2_part_1 ?_
  refine r_aload_n (j := 0) rfl rfl dX2_part_67 ?_
  obtain ⟨fs_x8, x8, ha_x8, hv_x8, hf⟩ := hf
  refine r_get (Cn := RX2) (Tt := TX2) (N := 9) (n := 6) rfl uw_X2 (Nat.le_of_ble_eq_true rfl) wd_4_28 ha_x8 hv_x8 dX2_part_68 ?_
  exact r_ireturn rfl dX2_part_71 rfl ⟨_, rfl, hf⟩
theorem m_X2_part {l : Launch} {G : GG} {d : Nat} {v0 : Nat} {v1 : Int32} {σ : Hp} {K : Int32 → Hp → Prop} (hr : rv σ v0 2) (hf : F_X2_part l G d v0 v1 σ K) : C_X2_part l G (d + 1) v0 v1 σ K := ⟨hr, Sp.of (by decide) (Nat.le_of_ble_eq_true rfl) (b_X2_part_0 hf) rfl⟩
def F_X2_isAt_29 (l : Launch) (G : GG) (d : Nat) (s0 : Bool) (σ : Hp) (K : Bool → Hp → Prop) : Prop :=
  K s0 σ
set_option maxRecDepth 100000 in
set_option maxHeartbeats 4000000 in
theorem b_X2_isAt_29 {l : Launch} {G : GG} {d : Nat} {s0 : Bool} {σ : Hp} {K : Bool → Hp → Prop} (hf : F_X2_isAt_29 l G d s0 σ K) : Wd l G (d + 1) "CoinsLaid$Lay" yX2_isAt cX2_isAt 4 (some FieldType.boolean) 29 [] [aI (bi s0)] σ 0 0 (xM (QZ K)) := by
  unfold F_X2_isAt_29 at hf
  exact r_zreturn (b := s0) rfl dX2_isAt_29 rfl ⟨_, rfl, hf⟩
def F_X2_isAt_28 (l : Launch) (G : GG) (d : Nat) (σ : Hp) (K : Bool → Hp → Prop) : Prop :=
  F_X2_isAt_29 l G d false σ K
set_option maxRecDepth 100000 in
set_option maxHeartbeats 4000000 in
theorem b_X2_isAt_28 {l : Launch} {G : GG} {d : Nat} {σ : Hp} {K : Bool → Hp → Prop} (hf : F_X2_isAt_28 l G d  σ K) : Wd l G (d + 1) "CoinsLaid$Lay" yX2_isAt cX2_isAt 4 (some FieldType.boolean) 28 [] [] σ 0 0 (xM (QZ K)) := by
  unfold F_X2_isAt_28 at hf
  refine r_iconst (v := 0) (by decide) dX2_isAt_28 ?_
  exact r_sub [] rfl (b_X2_isAt_29 hf)
def F_X2_isAt (l : Launch) (G : GG) (d : Nat) (v0 : Nat) (v1 : Int32) (v2 : Int32) (v3 : Int32) (σ : Hp) (K : Bool → Hp → Prop) : Prop :=
  fI σ v0 2 3 fun x1 =>
  (¬ (x1 : Int32) = (v1 : Int32) →
    F_X2_isAt_28 l G d σ K) ∧
  ((x1 : Int32) = (v1 : Int32) →
    fI σ v0 2 4 fun x2 =>
    (¬ (x2 : Int32) = (v2 : Int32) →
      F_X2_isAt_28 l G d σ K) ∧
    ((x2 : Int32) = (v2 : Int32) →
      fI σ v0 2 5 fun x3 =>
      (¬ (x3 : Int32) = (v3 : Int32) →
        F_X2_isAt_28 l G d σ K) ∧
      ((x3 : Int32) = (v3 : Int32) →
        F_X2_isAt_29 l G d true σ K)))
set_option maxRecDepth 100000 in
set_option maxHeartbeats 4000000 in
theorem b_X2_isAt_0 {l : Launch} {G : GG} {d : Nat} {v0 : Nat} {v1 : Int32} {v2 : Int32} {v3 : Int32} {σ : Hp} {K : Bool → Hp → Prop} (hf : F_X2_isAt l G d v0 v1 v2 v3 σ K) : Wd l G (d + 1) "CoinsLaid$Lay" yX2_isAt cX2_isAt 4 (some FieldType.boolean) 0 [(0, aR (some v0)), (1, aI v1), (2, aI v2), (3, aI v3)] [] σ 0 0 (xM (QZ K)) := by
  unfold F_X2_isAt at hf
  refine r_aload_n (j := 0) rfl rfl dX2_isAt_0 ?_
  obtain ⟨fs_x1, x1, ha_x1, hv_x1, hf⟩ := hf
  refine r_get (Cn := RX2) (Tt := TX2) (N := 9) (n := 3) rfl uw_X2 (Nat.le_of_ble_eq_true rfl) wd_4_25 ha_x1 hv_x1 dX2_isAt_1 ?_
  refine r_iload_n (j := 1) rfl rfl dX2_isAt_4 ?_
  refine r_icmpne (x := x1) (y := v1) (tgt := 28) (by decide) dX2_isAt_5 (fun hc => ?_) (fun hc => ?_)
  · replace hf := hf.1 hc
    exact r_sub [] rfl (b_X2_isAt_28 hf)
  · replace hf := hf.2 hc
    refine r_aload_n (j := 0) rfl rfl dX2_isAt_8 ?_
    obtain ⟨fs_x2, x2, ha_x2, hv_x2, hf⟩ := hf
    refine r_get (Cn := RX2) (Tt := TX2) (N := 9) (n := 4) rfl uw_X2 (Nat.le_of_ble_eq_true rfl) wd_4_26 ha_x2 hv_x2 dX2_isAt_9 ?_
    refine r_iload_n (j := 2) rfl rfl dX2_isAt_12 ?_
    refine r_icmpne (x := x2) (y := v2) (tgt := 28) (by decide) dX2_isAt_13 (fun hc => ?_) (fun hc => ?_)
    · replace hf := hf.1 hc
      exact r_sub [] rfl (b_X2_isAt_28 hf)
    · replace hf := hf.2 hc
      refine r_aload_n (j := 0) rfl rfl dX2_isAt_16 ?_
      obtain ⟨fs_x3, x3, ha_x3, hv_x3, hf⟩ := hf
      refine r_get (Cn := RX2) (Tt := TX2) (N := 9) (n := 5) rfl uw_X2 (Nat.le_of_ble_eq_true rfl) wd_4_27 ha_x3 hv_x3 dX2_isAt_17 ?_
      refine r_iload_n (j := 3) rfl rfl dX2_isAt_20 ?_
      refine r_icmpne (x := x3) (y := v3) (tgt := 28) (by decide) dX2_isAt_21 (fun hc => ?_) (fun hc => ?_)
      · replace hf := hf.1 hc
        exact r_sub [] rfl (b_X2_isAt_28 hf)
      · replace hf := hf.2 hc
        refine r_iconst (v := 1) (by decide) dX2_isAt_24 ?_
        refine r_goto (tgt := 29) (by decide) dX2_isAt_25 ?_
        exact r_sub [] rfl (b_X2_isAt_29 hf)
theorem m_X2_isAt {l : Launch} {G : GG} {d : Nat} {v0 : Nat} {v1 : Int32} {v2 : Int32} {v3 : Int32} {σ : Hp} {K : Bool → Hp → Prop} (hr : rv σ v0 2) (hf : F_X2_isAt l G d v0 v1 v2 v3 σ K) : C_X2_isAt l G (d + 1) v0 v1 v2 v3 σ K := ⟨hr, Sp.of (by decide) (Nat.le_of_ble_eq_true rfl) (b_X2_isAt_0 hf) rfl⟩
def F_X2_hasRoom_14 (l : Launch) (G : GG) (d : Nat) (s0 : Bool) (σ : Hp) (K : Bool → Hp → Prop) : Prop :=
  K s0 σ
set_option maxRecDepth 100000 in
set_option maxHeartbeats 4000000 in
theorem b_X2_hasRoom_14 {l : Launch} {G : GG} {d : Nat} {s0 : Bool} {σ : Hp} {K : Bool → Hp → Prop} (hf : F_X2_hasRoom_14 l G d s0 σ K) : Wd l G (d + 1) "CoinsLaid$Lay" yX2_hasRoom cX2_hasRoom 2 (some FieldType.boolean) 14 [] [aI (bi s0)] σ 0 0 (xM (QZ K)) := by
  unfold F_X2_hasRoom_14 at hf
  exact r_zreturn (b := s0) rfl dX2_hasRoom_14 rfl ⟨_, rfl, hf⟩
def F_X2_hasRoom (l : Launch) (G : GG) (d : Nat) (v0 : Nat) (v1 : Int32) (σ : Hp) (K : Bool → Hp → Prop) : Prop :=
  fI σ v0 2 7 fun x1 =>
  (¬ ((x1 &&& v1) : Int32) = 0 →
    F_X2_hasRoom_14 l G d false σ K) ∧
  (((x1 &&& v1) : Int32) = 0 →
    F_X2_hasRoom_14 l G d true σ K)
set_option maxRecDepth 100000 in
set_option maxHeartbeats 4000000 in
theorem b_X2_hasRoom_0 {l : Launch} {G : GG} {d : Nat} {v0 : Nat} {v1 : Int32} {σ : Hp} {K : Bool → Hp → Prop} (hf : F_X2_hasRoom l G d v0 v1 σ K) : Wd l G (d + 1) "CoinsLaid$Lay" yX2_hasRoom cX2_hasRoom 2 (some FieldType.boolean) 0 [(0, aR (some v0)), (1, aI v1)] [] σ 0 0 (xM (QZ K)) := by
  unfold F_X2_hasRoom at hf
  refine r_aload_n (j := 0) rfl rfl dX2_hasRoom_0 ?_
  obtain ⟨fs_x1, x1, ha_x1, hv_x1, hf⟩ := hf
  refine r_get (Cn := RX2) (Tt := TX2) (N := 9) (n := 7) rfl uw_X2 (Nat.le_of_ble_eq_true rfl) wd_4_33 ha_x1 hv_x1 dX2_hasRoom_1 ?_
  refine r_iload_n (j := 1) rfl rfl dX2_hasRoom_4 ?_
  refine r_iand (x := x1) (y := v1) dX2_hasRoom_5 ?_
  refine r_ifne (x := (x1 &&& v1)) (tgt := 13) (by decide) dX2_hasRoom_6 (fun hc => ?_) (fun hc => ?_)
  · replace hf := hf.1 hc
    refine r_iconst (v := 0) (by decide) dX2_hasRoom_13 ?_
    exact r_sub [] rfl (b_X2_hasRoom_14 hf)
  · replace hf := hf.2 hc
    refine r_iconst (v := 1) (by decide) dX2_hasRoom_9 ?_
    refine r_goto (tgt := 14) (by decide) dX2_hasRoom_10 ?_
    exact r_sub [] rfl (b_X2_hasRoom_14 hf)
theorem m_X2_hasRoom {l : Launch} {G : GG} {d : Nat} {v0 : Nat} {v1 : Int32} {σ : Hp} {K : Bool → Hp → Prop} (hr : rv σ v0 2) (hf : F_X2_hasRoom l G d v0 v1 σ K) : C_X2_hasRoom l G (d + 1) v0 v1 σ K := ⟨hr, Sp.of (by decide) (Nat.le_of_ble_eq_true rfl) (b_X2_hasRoom_0 hf) rfl⟩
def F_X2_mayBe_35 (l : Launch) (G : GG) (d : Nat) (s0 : Bool) (σ : Hp) (K : Bool → Hp → Prop) : Prop :=
  K s0 σ
set_option maxRecDepth 100000 in
set_option maxHeartbeats 4000000 in
theorem b_X2_mayBe_35 {l : Launch} {G : GG} {d : Nat} {s0 : Bool} {σ : Hp} {K : Bool → Hp → Prop} (hf : F_X2_mayBe_35 l G d s0 σ K) : Wd l G (d + 1) "CoinsLaid$Lay" yX2_mayBe cX2_mayBe 3 (some FieldType.boolean) 35 [] [aI (bi s0)] σ 0 0 (xM (QZ K)) := by
  unfold F_X2_mayBe_35 at hf
  exact r_zreturn (b := s0) rfl dX2_mayBe_35 rfl ⟨_, rfl, hf⟩
def F_X2_mayBe_30 (l : Launch) (G : GG) (d : Nat) (σ : Hp) (K : Bool → Hp → Prop) : Prop :=
  F_X2_mayBe_35 l G d true σ K
set_option maxRecDepth 100000 in
set_option maxHeartbeats 4000000 in
theorem b_X2_mayBe_30 {l : Launch} {G : GG} {d : Nat} {σ : Hp} {K : Bool → Hp → Prop} (hf : F_X2_mayBe_30 l G d  σ K) : Wd l G (d + 1) "CoinsLaid$Lay" yX2_mayBe cX2_mayBe 3 (some FieldType.boolean) 30 [] [] σ 0 0 (xM (QZ K)) := by
  unfold F_X2_mayBe_30 at hf
  refine r_iconst (v := 1) (by decide) dX2_mayBe_30 ?_
  refine r_goto (tgt := 35) (by decide) dX2_mayBe_31 ?_
  exact r_sub [] rfl (b_X2_mayBe_35 hf)
def F_X2_mayBe_34 (l : Launch) (G : GG) (d : Nat) (σ : Hp) (K : Bool → Hp → Prop) : Prop :=
  F_X2_mayBe_35 l G d false σ K
set_option maxRecDepth 100000 in
set_option maxHeartbeats 4000000 in
theorem b_X2_mayBe_34 {l : Launch} {G : GG} {d : Nat} {σ : Hp} {K : Bool → Hp → Prop} (hf : F_X2_mayBe_34 l G d  σ K) : Wd l G (d + 1) "CoinsLaid$Lay" yX2_mayBe cX2_mayBe 3 (some FieldType.boolean) 34 [] [] σ 0 0 (xM (QZ K)) := by
  unfold F_X2_mayBe_34 at hf
  refine r_iconst (v := 0) (by decide) dX2_mayBe_34 ?_
  exact r_sub [] rfl (b_X2_mayBe_35 hf)
def F_X2_mayBe (l : Launch) (G : GG) (d : Nat) (v0 : Nat) (v1 : Int32) (v2 : Int32) (σ : Hp) (K : Bool → Hp → Prop) : Prop :=
  C_X2_hasRoom l G d v0 v1 σ fun r2 σ1 =>
  (r2 = false →
    F_X2_mayBe_34 l G d σ1 K) ∧
  (r2 = true →
    fN σ1 v0 2 1 fun x3 =>
    fI σ1 x3 5 6 fun x4 =>
    ((x4 : Int32) = ((-1) : Int32) →
      F_X2_mayBe_30 l G d σ1 K) ∧
    (¬ (x4 : Int32) = ((-1) : Int32) →
      fN σ1 v0 2 1 fun x5 =>
      fI σ1 x5 5 6 fun x6 =>
      (¬ (x6 : Int32) = (v2 : Int32) →
        F_X2_mayBe_34 l G d σ1 K) ∧
      ((x6 : Int32) = (v2 : Int32) →
        F_X2_mayBe_30 l G d σ1 K)))
set_option maxRecDepth 100000 in
set_option maxHeartbeats 4000000 in
theorem b_X2_mayBe_0 {l : Launch} {G : GG} {d : Nat} {v0 : Nat} {v1 : Int32} {v2 : Int32} {σ : Hp} {K : Bool → Hp → Prop} (hf : F_X2_mayBe l G d v0 v1 v2 σ K) : Wd l G (d + 1) "CoinsLaid$Lay" yX2_mayBe cX2_mayBe 3 (some FieldType.boolean) 0 [(0, aR (some v0)), (1, aI v1), (2, aI v2)] [] σ 0 0 (xM (QZ K)) := by
  unfold F_X2_mayBe at hf
  refine r_aload_n (j := 0) rfl rfl dX2_mayBe_0 ?_
  refine r_iload_n (j := 1) rfl rfl dX2_mayBe_1 ?_
  try unfold C_X2_hasRoom at hf
  obtain ⟨⟨fs_r2, ha_r2⟩, hf⟩ := hf
  refine r_invVZ (t := 2) (As := [aI v1]) (dz := d) (mz := 0) (sz := 0) rfl wd_4_82 wd_4_83 wd_4_84 cf_X2_hasRoom (Nat.le_refl _) (Nat.zero_le _) (Nat.zero_le _) (cat_ok (Nat.le_of_ble_eq_true rfl)) rfl rfl ha_r2 dX2_mayBe_2 hf (fun r2 σ1 hk => ?_)
  replace hf := hk
  clear hk
  refine r_ifeqZ (b := r2) (tgt := 34) (by decide) dX2_mayBe_5 (fun hc => ?_) (fun hc => ?_)
  · replace hf := hf.1 hc
    exact r_sub [] rfl (b_X2_mayBe_34 hf)
  · replace hf := hf.2 hc
    refine r_aload_n (j := 0) rfl rfl dX2_mayBe_8 ?_
    obtain ⟨fs_x3, x3, ha_x3, hv_x3, hf⟩ := hf
    refine r_get (Cn := RX2) (Tt := TX2) (N := 9) (n := 1) rfl uw_X2 (Nat.le_of_ble_eq_true rfl) wd_4_21 ha_x3 hv_x3 dX2_mayBe_9 ?_
    obtain ⟨fs_x4, x4, ha_x4, hv_x4, hf⟩ := hf
    refine r_get (Cn := RX5) (Tt := TX5) (N := 7) (n := 6) rfl uw_X5 (Nat.le_of_ble_eq_true rfl) wd_3_194 ha_x4 hv_x4 dX2_mayBe_12 ?_
    refine r_iconst (v := (-1)) (by decide) dX2_mayBe_15 ?_
    refine r_icmpeq (x := x4) (y := (-1)) (tgt := 30) (by decide) dX2_mayBe_16 (fun hc => ?_) (fun hc => ?_)
    · replace hf := hf.1 hc
      exact r_sub [] rfl (b_X2_mayBe_30 hf)
    · replace hf := hf.2 hc
      refine r_aload_n (j := 0) rfl rfl dX2_mayBe_19 ?_
      obtain ⟨fs_x5, x5, ha_x5, hv_x5, hf⟩ := hf
      refine r_get (Cn := RX2) (Tt := TX2) (N := 9) (n := 1) rfl uw_X2 (Nat.le_of_ble_eq_true rfl) wd_4_21 ha_x5 hv_x5 dX2_mayBe_20 ?_
      obtain ⟨fs_x6, x6, ha_x6, hv_x6, hf⟩ := hf
      refine r_get (Cn := RX5) (Tt := TX5) (N := 7) (n := 6) rfl uw_X5 (Nat.le_of_ble_eq_true rfl) wd_3_194 ha_x6 hv_x6 dX2_mayBe_23 ?_
      refine r_iload_n (j := 2) rfl rfl dX2_mayBe_26 ?_
      refine r_icmpne (x := x6) (y := v2) (tgt := 34) (by decide) dX2_mayBe_27 (fun hc => ?_) (fun hc => ?_)
      · replace hf := hf.1 hc
        exact r_sub [] rfl (b_X2_mayBe_34 hf)
      · replace hf := hf.2 hc
        exact r_sub [] rfl (b_X2_mayBe_30 hf)
theorem m_X2_mayBe {l : Launch} {G : GG} {d : Nat} {v0 : Nat} {v1 : Int32} {v2 : Int32} {σ : Hp} {K : Bool → Hp → Prop} (hr : rv σ v0 2) (hf : F_X2_mayBe l G d v0 v1 v2 σ K) : C_X2_mayBe l G (d + 1) v0 v1 v2 σ K := ⟨hr, Sp.of (by decide) (Nat.le_of_ble_eq_true rfl) (b_X2_mayBe_0 hf) rfl⟩
def F_X5_init (l : Launch) (G : GG) (d : Nat) (v0 : Nat) (v1 : Int32) (v2 : Int64) (v4 : Int32) (v5 : Int32) (v6 : Int32) (σ : Hp) (K : Hp → Prop) : Prop :=
  pF σ v0 5 6 (aI (-1)) fun σ1 =>
  pF σ1 v0 5 0 (aI v1) fun σ3 =>
  pF σ3 v0 5 1 (aJ v2) fun σ5 =>
  pF σ5 v0 5 2 (aI v4) fun σ7 =>
  pF σ7 v0 5 3 (aI v5) fun σ9 =>
  pF σ9 v0 5 4 (aI v6) fun σ11 =>
  K σ11
set_option maxRecDepth 100000 in
set_option maxHeartbeats 4000000 in
theorem b_X5_init_0 {l : Launch} {G : GG} {d : Nat} {v0 : Nat} {v1 : Int32} {v2 : Int64} {v4 : Int32} {v5 : Int32} {v6 : Int32} {σ : Hp} {K : Hp → Prop} (hf : F_X5_init l G d v0 v1 v2 v4 v5 v6 σ K) : Wd l G (d + 1) "CoinsLaid$Piece" yX5_init cX5_init 7 none 0 [(0, aR (some v0)), (1, aI v1), (2, aJ v2), (4, aI v4), (5, aI v5), (6, aI v6)] [] σ 0 0 (xM (QV K)) := by
  unfold F_X5_init at hf
  refine r_aload_n (j := 0) rfl rfl dX5_init_0 ?_
  refine r_objInit wd_3_182 wd_1_37 wd_1_38 (Nat.le_add_left 1 d) (cat_ok (Nat.le_of_ble_eq_true rfl)) dX5_init_1 ?_
  refine r_aload_n (j := 0) rfl rfl dX5_init_4 ?_
  refine r_iconst (v := (-1)) (by decide) dX5_init_5 ?_
  obtain ⟨fs_x2, ha_x2, hf⟩ := hf
  generalize hσ1 : hset σ v0 (.inl (5, fs_x2.set 6 (aI (-1)))) = σ1 at hf
  refine r_put (Cn := RX5) (Tt := TX5) (N := 7) (n := 6) (v := aI (-1)) rfl uw_X5 (Nat.le_of_ble_eq_true rfl) wd_3_193 ha_x2 (ty0 := tyX5) tyX5_ok nmX5 rfl (fo_I (-1)) dX5_init_6 ?_
  rw [hσ1]
  refine r_aload_n (j := 0) rfl rfl dX5_init_9 ?_
  refine r_iload_n (j := 1) rfl rfl dX5_init_10 ?_
  obtain ⟨fs_x4, ha_x4, hf⟩ := hf
  generalize hσ3 : hset σ1 v0 (.inl (5, fs_x4.set 0 (aI v1))) = σ3 at hf
  refine r_putF (Cn := RX5) (Tt := TX5) (N := 7) (n := 0) (v := aI v1) rfl uw_X5 (Nat.le_of_ble_eq_true rfl) wd_3_183 ha_x4 (ty0 := tyX5) tyX5_ok nmX5 rfl rfl rfl (fo_I v1) dX5_init_11 ?_
  rw [hσ3]
  refine r_aload_n (j := 0) rfl rfl dX5_init_14 ?_
  refine r_lload_n (j := 2) rfl rfl dX5_init_15 ?_
  obtain ⟨fs_x6, ha_x6, hf⟩ := hf
  generalize hσ5 : hset σ3 v0 (.inl (5, fs_x6.set 1 (aJ v2))) = σ5 at hf
  refine r_putF (Cn := RX5) (Tt := TX5) (N := 7) (n := 1) (v := aJ v2) rfl uw_X5 (Nat.le_of_ble_eq_true rfl) wd_3_186 ha_x6 (ty0 := tyX5) tyX5_ok nmX5 rfl rfl rfl (fo_J v2) dX5_init_16 ?_
  rw [hσ5]
  refine r_aload_n (j := 0) rfl rfl dX5_init_19 ?_
  refine r_iload (j := 3) rfl dX5_init_20 ?_
  obtain ⟨fs_x8, ha_x8, hf⟩ := hf
  generalize hσ7 : hset σ5 v0 (.inl (5, fs_x8.set 2 (aI v4))) = σ7 at hf
  refine r_putF (Cn := RX5) (Tt := TX5) (N := 7) (n := 2) (v := aI v4) rfl uw_X5 (Nat.le_of_ble_eq_true rfl) wd_3_188 ha_x8 (ty0 := tyX5) tyX5_ok nmX5 rfl rfl rfl (fo_I v4) dX5_init_22 ?_
  rw [hσ7]
  refine r_aload_n (j := 0) rfl rfl dX5_init_25 ?_
  refine r_iload (j := 4) rfl dX5_init_26 ?_
  obtain ⟨fs_x10, ha_x10, hf⟩ := hf
  generalize hσ9 : hset σ7 v0 (.inl (5, fs_x10.set 3 (aI v5))) = σ9 at hf
  refine r_putF (Cn := RX5) (Tt := TX5) (N := 7) (n := 3) (v := aI v5) rfl uw_X5 (Nat.le_of_ble_eq_true rfl) wd_3_189 ha_x10 (ty0 := tyX5) tyX5_ok nmX5 rfl rfl rfl (fo_I v5) dX5_init_28 ?_
  rw [hσ9]
  refine r_aload_n (j := 0) rfl rfl dX5_init_31 ?_
  refine r_iload (j := 5) rfl dX5_init_32 ?_
  obtain ⟨fs_x12, ha_x12, hf⟩ := hf
  generalize hσ11 : hset σ9 v0 (.inl (5, fs_x12.set 4 (aI v6))) = σ11 at hf
  refine r_putF (Cn := RX5) (Tt := TX5) (N := 7) (n := 4) (v := aI v6) rfl uw_X5 (Nat.le_of_ble_eq_true rfl) wd_3_190 ha_x12 (ty0 := tyX5) tyX5_ok nmX5 rfl rfl rfl (fo_I v6) dX5_init_34 ?_
  rw [hσ11]
  exact r_return rfl dX5_init_37 rfl ⟨rfl, hf⟩
theorem m_X5_init {l : Launch} {G : GG} {d : Nat} {v0 : Nat} {v1 : Int32} {v2 : Int64} {v4 : Int32} {v5 : Int32} {v6 : Int32} {σ : Hp} {K : Hp → Prop} (hf : F_X5_init l G d v0 v1 v2 v4 v5 v6 σ K) : C_X5_init l G (d + 1) v0 v1 v2 v4 v5 v6 σ K := Sp.of (by decide) (Nat.le_of_ble_eq_true rfl) (b_X5_init_0 hf) rfl
def F_X5_hasShape_20 (l : Launch) (G : GG) (d : Nat) (σ : Hp) (K : Bool → Hp → Prop) : Prop :=
  K false σ
set_option maxRecDepth 100000 in
set_option maxHeartbeats 4000000 in
theorem b_X5_hasShape_20 {l : Launch} {G : GG} {d : Nat} {σ : Hp} {K : Bool → Hp → Prop} (hf : F_X5_hasShape_20 l G d  σ K) : Wd l G (d + 1) "CoinsLaid$Piece" yX5_hasShape cX5_hasShape 2 (some FieldType.boolean) 20 [] [] σ 0 0 (xM (QZ K)) := by
  unfold F_X5_hasShape_20 at hf
  refine r_iconst (v := 0) (by decide) dX5_hasShape_20 ?_
  exact r_zreturn (b := false) rfl dX5_hasShape_21 rfl ⟨_, rfl, hf⟩
def F_X5_hasShape_51 (l : Launch) (G : GG) (d : Nat) (s0 : Bool) (σ : Hp) (K : Bool → Hp → Prop) : Prop :=
  K s0 σ
set_option maxRecDepth 100000 in
set_option maxHeartbeats 4000000 in
theorem b_X5_hasShape_51 {l : Launch} {G : GG} {d : Nat} {s0 : Bool} {σ : Hp} {K : Bool → Hp → Prop} (hf : F_X5_hasShape_51 l G d s0 σ K) : Wd l G (d + 1) "CoinsLaid$Piece" yX5_hasShape cX5_hasShape 2 (some FieldType.boolean) 51 [] [aI (bi s0)] σ 0 0 (xM (QZ K)) := by
  unfold F_X5_hasShape_51 at hf
  exact r_zreturn (b := s0) rfl dX5_hasShape_51 rfl ⟨_, rfl, hf⟩
def F_X5_hasShape_46 (l : Launch) (G : GG) (d : Nat) (σ : Hp) (K : Bool → Hp → Prop) : Prop :=
  F_X5_hasShape_51 l G d true σ K
set_option maxRecDepth 100000 in
set_option maxHeartbeats 4000000 in
theorem b_X5_hasShape_46 {l : Launch} {G : GG} {d : Nat} {σ : Hp} {K : Bool → Hp → Prop} (hf : F_X5_hasShape_46 l G d  σ K) : Wd l G (d + 1) "CoinsLaid$Piece" yX5_hasShape cX5_hasShape 2 (some FieldType.boolean) 46 [] [] σ 0 0 (xM (QZ K)) := by
  unfold F_X5_hasShape_46 at hf
  refine r_iconst (v := 1) (by decide) dX5_hasShape_46 ?_
  refine r_goto (tgt := 51) (by decide) dX5_hasShape_47 ?_
  exact r_sub [] rfl (b_X5_hasShape_51 hf)
def F_X5_hasShape_50 (l : Launch) (G : GG) (d : Nat) (σ : Hp) (K : Bool → Hp → Prop) : Prop :=
  F_X5_hasShape_51 l G d false σ K
set_option maxRecDepth 100000 in
set_option maxHeartbeats 4000000 in
theorem b_X5_hasShape_50 {l : Launch} {G : GG} {d : Nat} {σ : Hp} {K : Bool → Hp → Prop} (hf : F_X5_hasShape_50 l G d  σ K) : Wd l G (d + 1) "CoinsLaid$Piece" yX5_hasShape cX5_hasShape 2 (some FieldType.boolean) 50 [] [] σ 0 0 (xM (QZ K)) := by
  unfold F_X5_hasShape_50 at hf
  refine r_iconst (v := 0) (by decide) dX5_hasShape_50 ?_
  exact r_sub [] rfl (b_X5_hasShape_51 hf)
def F_X5_hasShape (l : Launch) (G : GG) (d : Nat) (v0 : Nat) (v1 : Int32) (σ : Hp) (K : Bool → Hp → Prop) : Prop :=
  (¬ (v1 : Int32) = 0 →
    fZ σ v0 5 5 fun x1 =>
    (x1 = false →
      F_X5_hasShape_20 l G d σ K) ∧
    (x1 = true →
      fI σ v0 5 2 fun x2 =>
      (¬ (x2 : Int32) = 0 →
        fI σ v0 5 2 fun x3 =>
        ((x3 : Int32) = (2 : Int32) →
          F_X5_hasShape_46 l G d σ K) ∧
        (¬ (x3 : Int32) = (2 : Int32) →
          (¬ (v1 : Int32) = (1 : Int32) →
            F_X5_hasShape_50 l G d σ K) ∧
          ((v1 : Int32) = (1 : Int32) →
            fI σ v0 5 3 fun x4 =>
            fI σ v0 5 4 fun x5 =>
            ((x4 : Int32) = (x5 : Int32) →
              F_X5_hasShape_50 l G d σ K) ∧
            (¬ (x4 : Int32) = (x5 : Int32) →
              F_X5_hasShape_46 l G d σ K)))) ∧
      ((x2 : Int32) = 0 →
        F_X5_hasShape_20 l G d σ K))) ∧
  ((v1 : Int32) = 0 →
    K true σ)
set_option maxRecDepth 100000 in
set_option maxHeartbeats 4000000 in
theorem b_X5_hasShape_0 {l : Launch} {G : GG} {d : Nat} {v0 : Nat} {v1 : Int32} {σ : Hp} {K : Bool → Hp → Prop} (hf : F_X5_hasShape l G d v0 v1 σ K) : Wd l G (d + 1) "CoinsLaid$Piece" yX5_hasShape cX5_hasShape 2 (some FieldType.boolean) 0 [(0, aR (some v0)), (1, aI v1)] [] σ 0 0 (xM (QZ K)) := by
  unfold F_X5_hasShape at hf
  refine r_iload_n (j := 1) rfl rfl dX5_hasShape_0 ?_
  refine r_ifne (x := v1) (tgt := 6) (by decide) dX5_hasShape_1 (fun hc => ?_) (fun hc => ?_)
  · replace hf := hf.1 hc
    refine r_aload_n (j := 0) rfl rfl dX5_hasShape_6 ?_
    obtain ⟨fs_x1, x1, ha_x1, hv_x1, hf⟩ := hf
    refine r_get (Cn := RX5) (Tt := TX5) (N := 7) (n := 5) rfl uw_X5 (Nat.le_of_ble_eq_true rfl) wd_3_191 ha_x1 hv_x1 dX5_hasShape_7 ?_
    refine r_ifeqZ (b := x1) (tgt := 20) (by decide) dX5_hasShape_10 (fun hc => ?_) (fun hc => ?_)
    · replace hf := hf.1 hc
      exact r_sub [] rfl (b_X5_hasShape_20 hf)
    · replace hf := hf.2 hc
      refine r_aload_n (j := 0) rfl rfl dX5_hasShape_13 ?_
      obtain ⟨fs_x2, x2, ha_x2, hv_x2, hf⟩ := hf
      refine r_get (Cn := RX5) (Tt := TX5) (N := 7) (n := 2) rfl uw_X5 (Nat.le_of_ble_eq_true rfl) wd_3_188 ha_x2 hv_x2 dX5_hasShape_14 ?_
      refine r_ifne (x := x2) (tgt := 22) (by decide) dX5_hasShape_17 (fun hc => ?_) (fun hc => ?_)
      · replace hf := hf.1 hc
        refine r_aload_n (j := 0) rfl rfl dX5_hasShape_22 ?_
        obtain ⟨fs_x3, x3, ha_x3, hv_x3, hf⟩ := hf
        refine r_get (Cn := RX5) (Tt := TX5) (N := 7) (n := 2) rfl uw_X5 (Nat.le_of_ble_eq_true rfl) wd_3_188 ha_x3 hv_x3 dX5_hasShape_23 ?_
        refine r_iconst (v := 2) (by decide) dX5_hasShape_26 ?_
        refine r_icmpeq (x := x3) (y := 2) (tgt := 46) (by decide) dX5_hasShape_27 (fun hc => ?_) (fun hc => ?_)
        · replace hf := hf.1 hc
          exact r_sub [] rfl (b_X5_hasShape_46 hf)
        · replace hf := hf.2 hc
          refine r_iload_n (j := 1) rfl rfl dX5_hasShape_30 ?_
          refine r_iconst (v := 1) (by decide) dX5_hasShape_31 ?_
          refine r_icmpne (x := v1) (y := 1) (tgt := 50) (by decide) dX5_hasShape_32 (fun hc => ?_) (fun hc => ?_)
          · replace hf := hf.1 hc
            exact r_sub [] rfl (b_X5_hasShape_50 hf)
          · replace hf := hf.2 hc
            refine r_aload_n (j := 0) rfl rfl dX5_hasShape_35 ?_
            obtain ⟨fs_x4, x4, ha_x4, hv_x4, hf⟩ := hf
            refine r_get (Cn := RX5) (Tt := TX5) (N := 7) (n := 3) rfl uw_X5 (Nat.le_of_ble_eq_true rfl) wd_3_189 ha_x4 hv_x4 dX5_hasShape_36 ?_
            refine r_aload_n (j := 0) rfl rfl dX5_hasShape_39 ?_
            obtain ⟨fs_x5, x5, ha_x5, hv_x5, hf⟩ := hf
            refine r_get (Cn := RX5) (Tt := TX5) (N := 7) (n := 4) rfl uw_X5 (Nat.le_of_ble_eq_true rfl) wd_3_190 ha_x5 hv_x5 dX5_hasShape_40 ?_
            refine r_icmpeq (x := x4) (y := x5) (tgt := 50) (by decide) dX5_hasShape_43 (fun hc => ?_) (fun hc => ?_)
            · replace hf := hf.1 hc
              exact r_sub [] rfl (b_X5_hasShape_50 hf)
            · replace hf := hf.2 hc
              exact r_sub [] rfl (b_X5_hasShape_46 hf)
      · replace hf := hf.2 hc
        exact r_sub [] rfl (b_X5_hasShape_20 hf)
  · replace hf := hf.2 hc
    refine r_iconst (v := 1) (by decide) dX5_hasShape_4 ?_
    exact r_zreturn (b := true) rfl dX5_hasShape_5 rfl ⟨_, rfl, hf⟩
theorem m_X5_hasShape {l : Launch} {G : GG} {d : Nat} {v0 : Nat} {v1 : Int32} {σ : Hp} {K : Bool → Hp → Prop} (hr : rv σ v0 5) (hf : F_X5_hasShape l G d v0 v1 σ K) : C_X5_hasShape l G (d + 1) v0 v1 σ K := ⟨hr, Sp.of (by decide) (Nat.le_of_ble_eq_true rfl) (b_X5_hasShape_0 hf) rfl⟩
def F_X5_wideWhen_17 (l : Launch) (G : GG) (d : Nat) (s0 : Int32) (σ : Hp) (K : Int32 → Hp → Prop) : Prop :=
  K s0 σ
set_option maxRecDepth 100000 in
set_option maxHeartbeats 4000000 in
theorem b_X5_wideWhen_17 {l : Launch} {G : GG} {d : Nat} {s0 : Int32} {σ : Hp} {K : Int32 → Hp → Prop} (hf : F_X5_wideWhen_17 l G d s0 σ K) : Wd l G (d + 1) "CoinsLaid$Piece" yX5_wideWhen cX5_wideWhen 2 (some FieldType.int) 17 [] [aI s0] σ 0 0 (xM (QI K)) := by
  unfold F_X5_wideWhen_17 at hf
  exact r_ireturn rfl dX5_wideWhen_17 rfl ⟨_, rfl, hf⟩
def F_X5_wideWhen (l : Launch) (G : GG) (d : Nat) (v0 : Nat) (v1 : Int32) (σ : Hp) (K : Int32 → Hp → Prop) : Prop :=
  (¬ ((v1 &&& 1) : Int32) = 0 →
    fI σ v0 5 4 fun x1 =>
    F_X5_wideWhen_17 l G d x1 σ K) ∧
  (((v1 &&& 1) : Int32) = 0 →
    fI σ v0 5 3 fun x2 =>
    F_X5_wideWhen_17 l G d x2 σ K)
set_option maxRecDepth 100000 in
set_option maxHeartbeats 4000000 in
theorem b_X5_wideWhen_0 {l : Launch} {G : GG} {d : Nat} {v0 : Nat} {v1 : Int32} {σ : Hp} {K : Int32 → Hp → Prop} (hf : F_X5_wideWhen l G d v0 v1 σ K) : Wd l G (d + 1) "CoinsLaid$Piece" yX5_wideWhen cX5_wideWhen 2 (some FieldType.int) 0 [(0, aR (some v0)), (1, aI v1)] [] σ 0 0 (xM (QI K)) := by
  unfold F_X5_wideWhen at hf
  refine r_iload_n (j := 1) rfl rfl dX5_wideWhen_0 ?_
  refine r_iconst (v := 1) (by decide) dX5_wideWhen_1 ?_
  refine r_iand (x := v1) (y := 1) dX5_wideWhen_2 ?_
  refine r_ifne (x := (v1 &&& 1)) (tgt := 13) (by decide) dX5_wideWhen_3 (fun hc => ?_) (fun hc => ?_)
  · replace hf := hf.1 hc
    refine r_aload_n (j := 0) rfl rfl dX5_wideWhen_13 ?_
    obtain ⟨fs_x1, x1, ha_x1, hv_x1, hf⟩ := hf
    refine r_get (Cn := RX5) (Tt := TX5) (N := 7) (n := 4) rfl uw_X5 (Nat.le_of_ble_eq_true rfl) wd_3_190 ha_x1 hv_x1 dX5_wideWhen_14 ?_
    exact r_sub [] rfl (b_X5_wideWhen_17 hf)
  · replace hf := hf.2 hc
    refine r_aload_n (j := 0) rfl rfl dX5_wideWhen_6 ?_
    obtain ⟨fs_x2, x2, ha_x2, hv_x2, hf⟩ := hf
    refine r_get (Cn := RX5) (Tt := TX5) (N := 7) (n := 3) rfl uw_X5 (Nat.le_of_ble_eq_true rfl) wd_3_189 ha_x2 hv_x2 dX5_wideWhen_7 ?_
    refine r_goto (tgt := 17) (by decide) dX5_wideWhen_10 ?_
    exact r_sub [] rfl (b_X5_wideWhen_17 hf)
theorem m_X5_wideWhen {l : Launch} {G : GG} {d : Nat} {v0 : Nat} {v1 : Int32} {σ : Hp} {K : Int32 → Hp → Prop} (hr : rv σ v0 5) (hf : F_X5_wideWhen l G d v0 v1 σ K) : C_X5_wideWhen l G (d + 1) v0 v1 σ K := ⟨hr, Sp.of (by decide) (Nat.le_of_ble_eq_true rfl) (b_X5_wideWhen_0 hf) rfl⟩
def F_X5_highWhen_17 (l : Launch) (G : GG) (d : Nat) (s0 : Int32) (σ : Hp) (K : Int32 → Hp → Prop) : Prop :=
  K s0 σ
set_option maxRecDepth 100000 in
set_option maxHeartbeats 4000000 in
theorem b_X5_highWhen_17 {l : Launch} {G : GG} {d : Nat} {s0 : Int32} {σ : Hp} {K : Int32 → Hp → Prop} (hf : F_X5_highWhen_17 l G d s0 σ K) : Wd l G (d + 1) "CoinsLaid$Piece" yX5_highWhen cX5_highWhen 2 (some FieldType.int) 17 [] [aI s0] σ 0 0 (xM (QI K)) := by
  unfold F_X5_highWhen_17 at hf
  exact r_ireturn rfl dX5_highWhen_17 rfl ⟨_, rfl, hf⟩
def F_X5_highWhen (l : Launch) (G : GG) (d : Nat) (v0 : Nat) (v1 : Int32) (σ : Hp) (K : Int32 → Hp → Prop) : Prop :=
  (¬ ((v1 &&& 1) : Int32) = 0 →
    fI σ v0 5 3 fun x1 =>
    F_X5_highWhen_17 l G d x1 σ K) ∧
  (((v1 &&& 1) : Int32) = 0 →
    fI σ v0 5 4 fun x2 =>
    F_X5_highWhen_17 l G d x2 σ K)
set_option maxRecDepth 100000 in
set_option maxHeartbeats 4000000 in
theorem b_X5_highWhen_0 {l : Launch} {G : GG} {d : Nat} {v0 : Nat} {v1 : Int32} {σ : Hp} {K : Int32 → Hp → Prop} (hf : F_X5_highWhen l G d v0 v1 σ K) : Wd l G (d + 1) "CoinsLaid$Piece" yX5_highWhen cX5_highWhen 2 (some FieldType.int) 0 [(0, aR (some v0)), (1, aI v1)] [] σ 0 0 (xM (QI K)) := by
  unfold F_X5_highWhen at hf
  refine r_iload_n (j := 1) rfl rfl dX5_highWhen_0 ?_
  refine r_iconst (v := 1) (by decide) dX5_highWhen_1 ?_
  refine r_iand (x := v1) (y := 1) dX5_highWhen_2 ?_
  refine r_ifne (x := (v1 &&& 1)) (tgt := 13) (by decide) dX5_highWhen_3 (fun hc => ?_) (fun hc => ?_)
  · replace hf := hf.1 hc
    refine r_aload_n (j := 0) rfl rfl dX5_highWhen_13 ?_
    obtain ⟨fs_x1, x1, ha_x1, hv_x1, hf⟩ := hf
    refine r_get (Cn := RX5) (Tt := TX5) (N := 7) (n := 3) rfl uw_X5 (Nat.le_of_ble_eq_true rfl) wd_3_189 ha_x1 hv_x1 dX5_highWhen_14 ?_
    exact r_sub [] rfl (b_X5_highWhen_17 hf)
  · replace hf := hf.2 hc
    refine r_aload_n (j := 0) rfl rfl dX5_highWhen_6 ?_
    obtain ⟨fs_x2, x2, ha_x2, hv_x2, hf⟩ := hf
    refine r_get (Cn := RX5) (Tt := TX5) (N := 7) (n := 4) rfl uw_X5 (Nat.le_of_ble_eq_true rfl) wd_3_190 ha_x2 hv_x2 dX5_highWhen_7 ?_
    refine r_goto (tgt := 17) (by decide) dX5_highWhen_10 ?_
    exact r_sub [] rfl (b_X5_highWhen_17 hf)
theorem m_X5_highWhen {l : Launch} {G : GG} {d : Nat} {v0 : Nat} {v1 : Int32} {σ : Hp} {K : Int32 → Hp → Prop} (hr : rv σ v0 5) (hf : F_X5_highWhen l G d v0 v1 σ K) : C_X5_highWhen l G (d + 1) v0 v1 σ K := ⟨hr, Sp.of (by decide) (Nat.le_of_ble_eq_true rfl) (b_X5_highWhen_0 hf) rfl⟩
def F_X5_squaresOn_47 (l : Launch) (G : GG) (d : Nat) (σ : Hp) (K : Int32 → Hp → Prop) : Prop :=
  K 0 σ
set_option maxRecDepth 100000 in
set_option maxHeartbeats 4000000 in
theorem b_X5_squaresOn_47 {l : Launch} {G : GG} {d : Nat} {σ : Hp} {K : Int32 → Hp → Prop} (hf : F_X5_squaresOn_47 l G d  σ K) : Wd l G (d + 1) "CoinsLaid$Piece" yX5_squaresOn cX5_squaresOn 10 (some FieldType.int) 47 [] [] σ 0 0 (xM (QI K)) := by
  unfold F_X5_squaresOn_47 at hf
  refine r_iconst (v := 0) (by decide) dX5_squaresOn_47 ?_
  exact r_ireturn rfl dX5_squaresOn_48 rfl ⟨_, rfl, hf⟩
def F_X5_squaresOn_102 (l : Launch) (G : GG) (d : Nat) (X55 : Nat → Nat → Int32 → Int32 → Int32 → Int32 → Int32 → Int32 → Int32 → Hp → Prop) (X65 : Nat → Nat → Int32 → Int32 → Int32 → Int32 → Int32 → Int32 → Int32 → Int32 → Hp → Prop) (v0 : Nat) (v1 : Nat) (v2 : Int32) (v3 : Int32) (v4 : Int32) (v5 : Int32) (v6 : Int32) (v7 : Int32) (v8 : Int32) (v9 : Int32) (σ : Hp) (K : Int32 → Hp → Prop) : Prop :=
  X65 v0 v1 v2 v3 v4 v5 v6 v7 v8 (v9 + 1) σ
set_option maxRecDepth 100000 in
set_option maxHeartbeats 4000000 in
theorem b_X5_squaresOn_102 {l : Launch} {G : GG} {d : Nat} {X55 : Nat → Nat → Int32 → Int32 → Int32 → Int32 → Int32 → Int32 → Int32 → Hp → Prop} {X65 : Nat → Nat → Int32 → Int32 → Int32 → Int32 → Int32 → Int32 → Int32 → Int32 → Hp → Prop} {v0 : Nat} {v1 : Nat} {v2 : Int32} {v3 : Int32} {v4 : Int32} {v5 : Int32} {v6 : Int32} {v7 : Int32} {v8 : Int32} {v9 : Int32} {σ : Hp} {K : Int32 → Hp → Prop} (hX55 : ∀ v0 v1 v2 v3 v4 v5 v6 v7 v8 σ, X55 v0 v1 v2 v3 v4 v5 v6 v7 v8 σ → Wd l G (d + 1) "CoinsLaid$Piece" yX5_squaresOn cX5_squaresOn 10 (some FieldType.int) 55 [(0, aR (some v0)), (1, aR (some v1)), (2, aI v2), (3, aI v3), (4, aI v4), (5, aI v5), (6, aI v6), (7, aI v7), (8, aI v8)] [] σ 0 0 (xM (QI K))) (hX65 : ∀ v0 v1 v2 v3 v4 v5 v6 v7 v8 v9 σ, X65 v0 v1 v2 v3 v4 v5 v6 v7 v8 v9 σ → Wd l G (d + 1) "CoinsLaid$Piece" yX5_squaresOn cX5_squaresOn 10 (some FieldType.int) 65 [(0, aR (some v0)), (1, aR (some v1)), (2, aI v2), (3, aI v3), (4, aI v4), (5, aI v5), (6, aI v6), (7, aI v7), (8, aI v8), (9, aI v9)] [] σ 0 0 (xM (QI K))) (hf : F_X5_squaresOn_102 l G d X55 X65 v0 v1 v2 v3 v4 v5 v6 v7 v8 v9 σ K) : Wd l G (d + 1) "CoinsLaid$Piece" yX5_squaresOn cX5_squaresOn 10 (some FieldType.int) 102 [(0, aR (some v0)), (1, aR (some v1)), (2, aI v2), (3, aI v3), (4, aI v4), (5, aI v5), (6, aI v6), (7, aI v7), (8, aI v8), (9, aI v9)] [] σ 0 0 (xM (QI K)) := by
  unfold F_X5_squaresOn_102 at hf
  refine r_iinc (j := 9) (w := (v9 + 1)) (L' := [(9, aI (v9 + 1)), (0, aR (some v0)), (1, aR (some v1)), (2, aI v2), (3, aI v3), (4, aI v4), (5, aI v5), (6, aI v6), (7, aI v7), (8, aI v8)]) rfl (by rfl) rfl (Nat.le_of_ble_eq_true rfl) dX5_squaresOn_102 ?_
  refine r_goto (tgt := 65) (by decide) dX5_squaresOn_105 ?_
  exact r_sub [1, 2, 3, 4, 5, 6, 7, 8, 9, 0] rfl (hX65 _ _ _ _ _ _ _ _ _ _ _ hf)
def F_X5_squaresOn_65 (l : Launch) (G : GG) (d : Nat) (X55 : Nat → Nat → Int32 → Int32 → Int32 → Int32 → Int32 → Int32 → Int32 → Hp → Prop) (X65 : Nat → Nat → Int32 → Int32 → Int32 → Int32 → Int32 → Int32 → Int32 → Int32 → Hp → Prop) (v0 : Nat) (v1 : Nat) (v2 : Int32) (v3 : Int32) (v4 : Int32) (v5 : Int32) (v6 : Int32) (v7 : Int32) (v8 : Int32) (v9 : Int32) (σ : Hp) (K : Int32 → Hp → Prop) : Prop :=
  ((v5 : Int32) ≤ (v9 : Int32) →
    X55 v0 v1 v2 v3 v4 v5 v6 v7 (v8 + 1) σ) ∧
  (¬ (v5 : Int32) ≤ (v9 : Int32) →
    C_X5_isMissing l G d v0 v9 v8 v4 σ fun r2 σ1 =>
    (r2 = true →
      F_X5_squaresOn_102 l G d X55 X65 v0 v1 v2 v3 v4 v5 v6 v7 v8 v9 σ1 K) ∧
    (r2 = false →
      C_X0_bit l G d v1 (v2 + v9) (v3 + v8) σ1 fun r4 σ3 =>
      F_X5_squaresOn_102 l G d X55 X65 v0 v1 v2 v3 v4 v5 v6 (v7 ||| r4) v8 v9 σ3 K))
set_option maxRecDepth 100000 in
set_option maxHeartbeats 4000000 in
theorem b_X5_squaresOn_65 {l : Launch} {G : GG} {d : Nat} {X55 : Nat → Nat → Int32 → Int32 → Int32 → Int32 → Int32 → Int32 → Int32 → Hp → Prop} {X65 : Nat → Nat → Int32 → Int32 → Int32 → Int32 → Int32 → Int32 → Int32 → Int32 → Hp → Prop} {v0 : Nat} {v1 : Nat} {v2 : Int32} {v3 : Int32} {v4 : Int32} {v5 : Int32} {v6 : Int32} {v7 : Int32} {v8 : Int32} {v9 : Int32} {σ : Hp} {K : Int32 → Hp → Prop} (hX55 : ∀ v0 v1 v2 v3 v4 v5 v6 v7 v8 σ, X55 v0 v1 v2 v3 v4 v5 v6 v7 v8 σ → Wd l G (d + 1) "CoinsLaid$Piece" yX5_squaresOn cX5_squaresOn 10 (some FieldType.int) 55 [(0, aR (some v0)), (1, aR (some v1)), (2, aI v2), (3, aI v3), (4, aI v4), (5, aI v5), (6, aI v6), (7, aI v7), (8, aI v8)] [] σ 0 0 (xM (QI K))) (hX65 : ∀ v0 v1 v2 v3 v4 v5 v6 v7 v8 v9 σ, X65 v0 v1 v2 v3 v4 v5 v6 v7 v8 v9 σ → Wd l G (d + 1) "CoinsLaid$Piece" yX5_squaresOn cX5_squaresOn 10 (some FieldType.int) 65 [(0, aR (some v0)), (1, aR (some v1)), (2, aI v2), (3, aI v3), (4, aI v4), (5, aI v5), (6, aI v6), (7, aI v7), (8, aI v8), (9, aI v9)] [] σ 0 0 (xM (QI K))) (hf : F_X5_squaresOn_65 l G d X55 X65 v0 v1 v2 v3 v4 v5 v6 v7 v8 v9 σ K) : Wd l G (d + 1) "CoinsLaid$Piece" yX5_squaresOn cX5_squaresOn 10 (some FieldType.int) 65 [(0, aR (some v0)), (1, aR (some v1)), (2, aI v2), (3, aI v3), (4, aI v4), (5, aI v5), (6, aI v6), (7, aI v7), (8, aI v8), (9, aI v9)] [] σ 0 0 (xM (QI K)) := by
  unfold F_X5_squaresOn_65 at hf
  refine r_iload (j := 9) rfl dX5_squaresOn_65 ?_
  refine r_iload (j := 5) rfl dX5_squaresOn_67 ?_
  refine r_icmpge (x := v9) (y := v5) (tgt := 108) (by decide) dX5_squaresOn_69 (fun hc => ?_) (fun hc => ?_)
  · replace hf := hf.1 hc
    refine r_iinc (j := 8) (w := (v8 + 1)) (L' := [(8, aI (v8 + 1)), (0, aR (some v0)), (1, aR (some v1)), (2, aI v2), (3, aI v3), (4, aI v4), (5, aI v5), (6, aI v6), (7, aI v7), (9, aI v9)]) rfl (by rfl) rfl (Nat.le_of_ble_eq_true rfl) dX5_squaresOn_108 ?_
    refine r_goto (tgt := 55) (by decide) dX5_squaresOn_111 ?_
    exact r_sub [1, 2, 3, 4, 5, 6, 7, 8, 0] rfl (hX55 _ _ _ _ _ _ _ _ _ _ hf)
  · replace hf := hf.2 hc
    refine r_aload_n (j := 0) rfl rfl dX5_squaresOn_72 ?_
    refine r_iload (j := 9) rfl dX5_squaresOn_73 ?_
    refine r_iload (j := 8) rfl dX5_squaresOn_75 ?_
    refine r_iload (j := 4) rfl dX5_squaresOn_77 ?_
    try unfold C_X5_isMissing at hf
    obtain ⟨⟨fs_r2, ha_r2⟩, hf⟩ := hf
    refine r_invVZ (t := 5) (As := [aI v9, aI v8, aI v4]) (dz := d) (mz := 0) (sz := 0) rfl wd_4_9 wd_4_11 wd_p_26 cf_X5_isMissing (Nat.le_refl _) (Nat.zero_le _) (Nat.zero_le _) (cat_ok (Nat.le_of_ble_eq_true rfl)) rfl rfl ha_r2 dX5_squaresOn_79 hf (fun r2 σ1 hk => ?_)
    replace hf := hk
    clear hk
    refine r_ifneZ (b := r2) (tgt := 102) (by decide) dX5_squaresOn_82 (fun hc => ?_) (fun hc => ?_)
    · replace hf := hf.1 hc
      exact r_sub [0, 1, 2, 3, 4, 5, 6, 7, 8, 9] rfl (b_X5_squaresOn_102 hX55 hX65 hf)
    · replace hf := hf.2 hc
      refine r_iload (j := 7) rfl dX5_squaresOn_85 ?_
      refine r_aload_n (j := 1) rfl rfl dX5_squaresOn_87 ?_
      refine r_iload_n (j := 2) rfl rfl dX5_squaresOn_88 ?_
      refine r_iload (j := 9) rfl dX5_squaresOn_89 ?_
      refine r_iadd (x := v2) (y := v9) dX5_squaresOn_91 ?_
      refine r_iload_n (j := 3) rfl rfl dX5_squaresOn_92 ?_
      refine r_iload (j := 8) rfl dX5_squaresOn_93 ?_
      refine r_iadd (x := v3) (y := v8) dX5_squaresOn_95 ?_
      try unfold C_X0_bit at hf
      obtain ⟨⟨fs_r4, ha_r4⟩, hf⟩ := hf
      refine r_invVI (t := 0) (As := [aI (v2 + v9), aI (v3 + v8)]) (dz := d) (mz := 0) (sz := 0) rfl wd_4_13 wd_3_162 wd_3_163 cf_X0_bit (Nat.le_refl _) (Nat.zero_le _) (Nat.zero_le _) (cat_ok (Nat.le_of_ble_eq_true rfl)) rfl rfl ha_r4 dX5_squaresOn_96 hf (fun r4 σ3 hk => ?_)
      replace hf := hk
      clear hk
      refine r_ior (x := v7) (y := r4) dX5_squaresOn_99 ?_
      refine r_istore (L' := [(7, aI (v7 ||| r4)), (0, aR (some v0)), (1, aR (some v1)), (2, aI v2), (3, aI v3), (4, aI v4), (5, aI v5), (6, aI v6), (8, aI v8), (9, aI v9)]) rfl (Nat.le_of_ble_eq_true rfl) dX5_squaresOn_100 ?_
      exact r_sub [1, 2, 3, 4, 5, 6, 7, 0, 8, 9] rfl (b_X5_squaresOn_102 hX55 hX65 hf)
def Z_X5_squaresOn_65 (l : Launch) (G : GG) (d : Nat) (X55 : Nat → Nat → Int32 → Int32 → Int32 → Int32 → Int32 → Int32 → Int32 → Hp → Prop) (K : Int32 → Hp → Prop) : Nat → Nat → Nat → Int32 → Int32 → Int32 → Int32 → Int32 → Int32 → Int32 → Int32 → Hp → Prop
  | 0 => fun _ _ _ _ _ _ _ _ _ _ _ => False
  | n + 1 => fun v0 v1 v2 v3 v4 v5 v6 v7 v8 v9 σ => F_X5_squaresOn_65 l G d X55 (Z_X5_squaresOn_65 l G d X55 K n) v0 v1 v2 v3 v4 v5 v6 v7 v8 v9 σ K
theorem z_X5_squaresOn_65 {l : Launch} {G : GG} {d : Nat} {X55 : Nat → Nat → Int32 → Int32 → Int32 → Int32 → Int32 → Int32 → Int32 → Hp → Prop} {K : Int32 → Hp → Prop} (hX55 : ∀ v0 v1 v2 v3 v4 v5 v6 v7 v8 σ, X55 v0 v1 v2 v3 v4 v5 v6 v7 v8 σ → Wd l G (d + 1) "CoinsLaid$Piece" yX5_squaresOn cX5_squaresOn 10 (some FieldType.int) 55 [(0, aR (some v0)), (1, aR (some v1)), (2, aI v2), (3, aI v3), (4, aI v4), (5, aI v5), (6, aI v6), (7, aI v7), (8, aI v8)] [] σ 0 0 (xM (QI K))) : ∀ (n : Nat) v0 v1 v2 v3 v4 v5 v6 v7 v8 v9 σ, Z_X5_squaresOn_65 l G d X55 K n v0 v1 v2 v3 v4 v5 v6 v7 v8 v9 σ → Wd l G (d + 1) "CoinsLaid$Piece" yX5_squaresOn cX5_squaresOn 10 (some FieldType.int) 65 [(0, aR (some v0)), (1, aR (some v1)), (2, aI v2), (3, aI v3), (4, aI v4), (5, aI v5), (6, aI v6), (7, aI v7), (8, aI v8), (9, aI v9)] [] σ 0 0 (xM (QI K)) := by
  intro n
  induction n with
  | zero => intro v0 v1 v2 v3 v4 v5 v6 v7 v8 v9 σ hf; exact hf.elim
  | succ n ih => intro v0 v1 v2 v3 v4 v5 v6 v7 v8 v9 σ hf; exact b_X5_squaresOn_65 hX55 ih hf
def F_X5_squaresOn_55 (l : Launch) (G : GG) (d : Nat) (X55 : Nat → Nat → Int32 → Int32 → Int32 → Int32 → Int32 → Int32 → Int32 → Hp → Prop) (v0 : Nat) (v1 : Nat) (v2 : Int32) (v3 : Int32) (v4 : Int32) (v5 : Int32) (v6 : Int32) (v7 : Int32) (v8 : Int32) (σ : Hp) (K : Int32 → Hp → Prop) : Prop :=
  ((v6 : Int32) ≤ (v8 : Int32) →
    K v7 σ) ∧
  (¬ (v6 : Int32) ≤ (v8 : Int32) →
    ∃ n, Z_X5_squaresOn_65 l G d X55 K n v0 v1 v2 v3 v4 v5 v6 v7 v8 0 σ)
set_option maxRecDepth 100000 in
set_option maxHeartbeats 4000000 in
theorem b_X5_squaresOn_55 {l : Launch} {G : GG} {d : Nat} {X55 : Nat → Nat → Int32 → Int32 → Int32 → Int32 → Int32 → Int32 → Int32 → Hp → Prop} {v0 : Nat} {v1 : Nat} {v2 : Int32} {v3 : Int32} {v4 : Int32} {v5 : Int32} {v6 : Int32} {v7 : Int32} {v8 : Int32} {σ : Hp} {K : Int32 → Hp → Prop} (hX55 : ∀ v0 v1 v2 v3 v4 v5 v6 v7 v8 σ, X55 v0 v1 v2 v3 v4 v5 v6 v7 v8 σ → Wd l G (d + 1) "CoinsLaid$Piece" yX5_squaresOn cX5_squaresOn 10 (some FieldType.int) 55 [(0, aR (some v0)), (1, aR (some v1)), (2, aI v2), (3, aI v3), (4, aI v4), (5, aI v5), (6, aI v6), (7, aI v7), (8, aI v8)] [] σ 0 0 (xM (QI K))) (hf : F_X5_squaresOn_55 l G d X55 v0 v1 v2 v3 v4 v5 v6 v7 v8 σ K) : Wd l G (d + 1) "CoinsLaid$Piece" yX5_squaresOn cX5_squaresOn 10 (some FieldType.int) 55 [(0, aR (some v0)), (1, aR (some v1)), (2, aI v2), (3, aI v3), (4, aI v4), (5, aI v5), (6, aI v6), (7, aI v7), (8, aI v8)] [] σ 0 0 (xM (QI K)) := by
  unfold F_X5_squaresOn_55 at hf
  refine r_iload (j := 8) rfl dX5_squaresOn_55 ?_
  refine r_iload (j := 6) rfl dX5_squaresOn_57 ?_
  refine r_icmpge (x := v8) (y := v6) (tgt := 114) (by decide) dX5_squaresOn_59 (fun hc => ?_) (fun hc => ?_)
  · replace hf := hf.1 hc
    refine r_iload (j := 7) rfl dX5_squaresOn_114 ?_
    exact r_ireturn rfl dX5_squaresOn_116 rfl ⟨_, rfl, hf⟩
  · replace hf := hf.2 hc
    refine r_iconst (v := 0) (by decide) dX5_squaresOn_62 ?_
    refine r_istore (L' := [(9, aI 0), (0, aR (some v0)), (1, aR (some v1)), (2, aI v2), (3, aI v3), (4, aI v4), (5, aI v5), (6, aI v6), (7, aI v7), (8, aI v8)]) rfl (Nat.le_of_ble_eq_true rfl) dX5_squaresOn_63 ?_
    obtain ⟨n, hf⟩ := hf
    exact r_sub [1, 2, 3, 4, 5, 6, 7, 8, 9, 0] rfl (z_X5_squaresOn_65 hX55 n _ _ _ _ _ _ _ _ _ _ _ hf)
def Z_X5_squaresOn_55 (l : Launch) (G : GG) (d : Nat) (K : Int32 → Hp → Prop) : Nat → Nat → Nat → Int32 → Int32 → Int32 → Int32 → Int32 → Int32 → Int32 → Hp → Prop
  | 0 => fun _ _ _ _ _ _ _ _ _ _ => False
  | n + 1 => fun v0 v1 v2 v3 v4 v5 v6 v7 v8 σ => F_X5_squaresOn_55 l G d (Z_X5_squaresOn_55 l G d K n) v0 v1 v2 v3 v4 v5 v6 v7 v8 σ K
theorem z_X5_squaresOn_55 {l : Launch} {G : GG} {d : Nat} {K : Int32 → Hp → Prop} : ∀ (n : Nat) v0 v1 v2 v3 v4 v5 v6 v7 v8 σ, Z_X5_squaresOn_55 l G d K n v0 v1 v2 v3 v4 v5 v6 v7 v8 σ → Wd l G (d + 1) "CoinsLaid$Piece" yX5_squaresOn cX5_squaresOn 10 (some FieldType.int) 55 [(0, aR (some v0)), (1, aR (some v1)), (2, aI v2), (3, aI v3), (4, aI v4), (5, aI v5), (6, aI v6), (7, aI v7), (8, aI v8)] [] σ 0 0 (xM (QI K)) := by
  intro n
  induction n with
  | zero => intro v0 v1 v2 v3 v4 v5 v6 v7 v8 σ hf; exact hf.elim
  | succ n ih => intro v0 v1 v2 v3 v4 v5 v6 v7 v8 σ hf; exact b_X5_squaresOn_55 ih hf
def F_X5_squaresOn (l : Launch) (G : GG) (d : Nat) (v0 : Nat) (v1 : Nat) (v2 : Int32) (v3 : Int32) (v4 : Int32) (σ : Hp) (K : Int32 → Hp → Prop) : Prop :=
  C_X5_wideWhen l G d v0 v4 σ fun r6 σ5 =>
  C_X5_highWhen l G d v0 v4 σ5 fun r8 σ7 =>
  C_X5_hasShape l G d v0 v4 σ7 fun r10 σ9 =>
  (r10 = false →
    F_X5_squaresOn_47 l G d σ9 K) ∧
  (r10 = true →
    fI σ9 v1 0 2 fun x11 =>
    ((x11 : Int32) < ((v2 + r6) : Int32) →
      F_X5_squaresOn_47 l G d σ9 K) ∧
    (¬ (x11 : Int32) < ((v2 + r6) : Int32) →
      fI σ9 v1 0 3 fun x12 =>
      (((v3 + r8) : Int32) ≤ (x12 : Int32) →
        ∃ n, Z_X5_squaresOn_55 l G d K n v0 v1 v2 v3 v4 r6 r8 0 0 σ9) ∧
      (¬ ((v3 + r8) : Int32) ≤ (x12 : Int32) →
        F_X5_squaresOn_47 l G d σ9 K)))
set_option maxRecDepth 100000 in
set_option maxHeartbeats 4000000 in
theorem b_X5_squaresOn_0 {l : Launch} {G : GG} {d : Nat} {v0 : Nat} {v1 : Nat} {v2 : Int32} {v3 : Int32} {v4 : Int32} {σ : Hp} {K : Int32 → Hp → Prop} (hf : F_X5_squaresOn l G d v0 v1 v2 v3 v4 σ K) : Wd l G (d + 1) "CoinsLaid$Piece" yX5_squaresOn cX5_squaresOn 10 (some FieldType.int) 0 [(0, aR (some v0)), (1, aR (some v1)), (2, aI v2), (3, aI v3), (4, aI v4)] [] σ 0 0 (xM (QI K)) := by
  unfold F_X5_squaresOn at hf
  refine r_aload_n (j := 0) rfl rfl dX5_squaresOn_0 ?_
  refine r_iload (j := 4) rfl dX5_squaresOn_1 ?_
  try unfold C_X5_wideWhen at hf
  obtain ⟨⟨fs_r6, ha_r6⟩, hf⟩ := hf
  refine r_invVI (t := 5) (As := [aI v4]) (dz := d) (mz := 0) (sz := 0) rfl wd_3_237 wd_3_239 wd_p_23 cf_X5_wideWhen (Nat.le_refl _) (Nat.zero_le _) (Nat.zero_le _) (cat_ok (Nat.le_of_ble_eq_true rfl)) rfl rfl ha_r6 dX5_squaresOn_3 hf (fun r6 σ5 hk => ?_)
  replace hf := hk
  clear hk
  refine r_istore (L' := [(5, aI r6), (0, aR (some v0)), (1, aR (some v1)), (2, aI v2), (3, aI v3), (4, aI v4)]) rfl (Nat.le_of_ble_eq_true rfl) dX5_squaresOn_6 ?_
  refine r_aload_n (j := 1) rfl rfl dX5_squaresOn_8 ?_
  refine r_iload (j := 5) rfl dX5_squaresOn_9 ?_
  try unfold C_X5_highWhen at hf
  obtain ⟨⟨fs_r8, ha_r8⟩, hf⟩ := hf
  refine r_invVI (t := 5) (As := [aI v4]) (dz := d) (mz := 0) (sz := 0) rfl wd_4_1 wd_4_3 wd_p_24 cf_X5_highWhen (Nat.le_refl _) (Nat.zero_le _) (Nat.zero_le _) (cat_ok (Nat.le_of_ble_eq_true rfl)) rfl rfl ha_r8 dX5_squaresOn_11 hf (fun r8 σ7 hk => ?_)
  replace hf := hk
  clear hk
  refine r_istore (L' := [(6, aI r8), (5, aI r6), (0, aR (some v0)), (1, aR (some v1)), (2, aI v2), (3, aI v3), (4, aI v4)]) rfl (Nat.le_of_ble_eq_true rfl) dX5_squaresOn_14 ?_
  refine r_aload_n (j := 2) rfl rfl dX5_squaresOn_16 ?_
  refine r_iload (j := 6) rfl dX5_squaresOn_17 ?_
  try unfold C_X5_hasShape at hf
  obtain ⟨⟨fs_r10, ha_r10⟩, hf⟩ := hf
  refine r_invVZ (t := 5) (As := [aI v4]) (dz := d) (mz := 0) (sz := 0) rfl wd_4_5 wd_4_7 wd_p_25 cf_X5_hasShape (Nat.le_refl _) (Nat.zero_le _) (Nat.zero_le _) (cat_ok (Nat.le_of_ble_eq_true rfl)) rfl rfl ha_r10 dX5_squaresOn_19 hf (fun r10 σ9 hk => ?_)
  replace hf := hk
  clear hk
  refine r_ifeqZ (b := r10) (tgt := 47) (by decide) dX5_squaresOn_22 (fun hc => ?_) (fun hc => ?_)
  · replace hf := hf.1 hc
    exact r_sub [] rfl (b_X5_squaresOn_47 hf)
  · replace hf := hf.2 hc
    refine r_iload_n (j := 4) rfl rfl dX5_squaresOn_25 ?_
    refine r_iload (j := 1) rfl dX5_squaresOn_26 ?_
    refine r_iadd (x := v2) (y := r6) dX5_squaresOn_28 ?_
    refine r_aload_n (j := 3) rfl rfl dX5_squaresOn_29 ?_
    obtain ⟨fs_x11, x11, ha_x11, hv_x11, hf⟩ := hf
    refine r_get (Cn := RX0) (Tt := TX0) (N := 5) (n := 2) rfl uw_X0 (Nat.le_of_ble_eq_true rfl) wd_3_61 ha_x11 hv_x11 dX5_squaresOn_30 ?_
    refine r_icmpgt (x := (v2 + r6)) (y := x11) (tgt := 47) (by decide) dX5_squaresOn_33 (fun hc => ?_) (fun hc => ?_)
    · replace hf := hf.1 hc
      exact r_sub [] rfl (b_X5_squaresOn_47 hf)
    · replace hf := hf.2 hc
      refine r_iload_n (j := 5) rfl rfl dX5_squaresOn_36 ?_
      refine r_iload (j := 0) rfl dX5_squaresOn_37 ?_
      refine r_iadd (x := v3) (y := r8) dX5_squaresOn_39 ?_
      refine r_aload_n (j := 3) rfl rfl dX5_squaresOn_40 ?_
      obtain ⟨fs_x12, x12, ha_x12, hv_x12, hf⟩ := hf
      refine r_get (Cn := RX0) (Tt := TX0) (N := 5) (n := 3) rfl uw_X0 (Nat.le_of_ble_eq_true rfl) wd_3_65 ha_x12 hv_x12 dX5_squaresOn_41 ?_
      refine r_icmple (x := (v3 + r8)) (y := x12) (tgt := 49) (by decide) dX5_squaresOn_44 (fun hc => ?_) (fun hc => ?_)
      · replace hf := hf.1 hc
        refine r_iconst (v := 0) (by decide) dX5_squaresOn_49 ?_
        refine r_istore (L' := [(7, aI 0), (6, aI r8), (5, aI r6), (0, aR (some v0)), (1, aR (some v1)), (2, aI v2), (3, aI v3), (4, aI v4)]) rfl (Nat.le_of_ble_eq_true rfl) dX5_squaresOn_50 ?_
        refine r_iconst (v := 0) (by decide) dX5_squaresOn_52 ?_
        refine r_istore (L' := [(8, aI 0), (7, aI 0), (6, aI r8), (5, aI r6), (0, aR (some v0)), (1, aR (some v1)), (2, aI v2), (3, aI v3), (4, aI v4)]) rfl (Nat.le_of_ble_eq_true rfl) dX5_squaresOn_53 ?_
        obtain ⟨n, hf⟩ := hf
        exact r_sub [4, 5, 6, 7, 8, 3, 2, 1, 0] rfl (z_X5_squaresOn_55 n _ _ _ _ _ _ _ _ _ _ hf)
      · replace hf := hf.2 hc
        exact r_sub [] rfl (b_X5_squaresOn_47 hf)
theorem m_X5_squaresOn {l : Launch} {G : GG} {d : Nat} {v0 : Nat} {v1 : Nat} {v2 : Int32} {v3 : Int32} {v4 : Int32} {σ : Hp} {K : Int32 → Hp → Prop} (hr : rv σ v0 5) (hf : F_X5_squaresOn l G d v0 v1 v2 v3 v4 σ K) : C_X5_squaresOn l G (d + 1) v0 v1 v2 v3 v4 σ K := ⟨hr, Sp.of (by decide) (Nat.le_of_ble_eq_true rfl) (b_X5_squaresOn_0 hf) rfl⟩
def F_X5_isMissing_67 (l : Launch) (G : GG) (d : Nat) (s0 : Bool) (σ : Hp) (K : Bool → Hp → Prop) : Prop :=
  K s0 σ
set_option maxRecDepth 100000 in
set_option maxHeartbeats 4000000 in
theorem b_X5_isMissing_67 {l : Launch} {G : GG} {d : Nat} {s0 : Bool} {σ : Hp} {K : Bool → Hp → Prop} (hf : F_X5_isMissing_67 l G d s0 σ K) : Wd l G (d + 1) "CoinsLaid$Piece" yX5_isMissing cX5_isMissing 6 (some FieldType.boolean) 67 [] [aI (bi s0)] σ 0 0 (xM (QZ K)) := by
  unfold F_X5_isMissing_67 at hf
  exact r_zreturn (b := s0) rfl dX5_isMissing_67 rfl ⟨_, rfl, hf⟩
def F_X5_isMissing_66 (l : Launch) (G : GG) (d : Nat) (σ : Hp) (K : Bool → Hp → Prop) : Prop :=
  F_X5_isMissing_67 l G d false σ K
set_option maxRecDepth 100000 in
set_option maxHeartbeats 4000000 in
theorem b_X5_isMissing_66 {l : Launch} {G : GG} {d : Nat} {σ : Hp} {K : Bool → Hp → Prop} (hf : F_X5_isMissing_66 l G d  σ K) : Wd l G (d + 1) "CoinsLaid$Piece" yX5_isMissing cX5_isMissing 6 (some FieldType.boolean) 66 [] [] σ 0 0 (xM (QZ K)) := by
  unfold F_X5_isMissing_66 at hf
  refine r_iconst (v := 0) (by decide) dX5_isMissing_66 ?_
  exact r_sub [] rfl (b_X5_isMissing_67 hf)
def F_X5_isMissing_48 (l : Launch) (G : GG) (d : Nat) (v1 : Int32) (v2 : Int32) (v4 : Int32) (s0 : Int32) (σ : Hp) (K : Bool → Hp → Prop) : Prop :=
  (¬ (v1 : Int32) = (v4 : Int32) →
    F_X5_isMissing_66 l G d σ K) ∧
  ((v1 : Int32) = (v4 : Int32) →
    (¬ (v2 : Int32) = (s0 : Int32) →
      F_X5_isMissing_66 l G d σ K) ∧
    ((v2 : Int32) = (s0 : Int32) →
      F_X5_isMissing_67 l G d true σ K))
set_option maxRecDepth 100000 in
set_option maxHeartbeats 4000000 in
theorem b_X5_isMissing_48 {l : Launch} {G : GG} {d : Nat} {v1 : Int32} {v2 : Int32} {v4 : Int32} {s0 : Int32} {σ : Hp} {K : Bool → Hp → Prop} (hf : F_X5_isMissing_48 l G d v1 v2 v4 s0 σ K) : Wd l G (d + 1) "CoinsLaid$Piece" yX5_isMissing cX5_isMissing 6 (some FieldType.boolean) 48 [(1, aI v1), (2, aI v2), (4, aI v4)] [aI s0] σ 0 0 (xM (QZ K)) := by
  unfold F_X5_isMissing_48 at hf
  refine r_istore (L' := [(5, aI s0), (1, aI v1), (2, aI v2), (4, aI v4)]) rfl (Nat.le_of_ble_eq_true rfl) dX5_isMissing_48 ?_
  refine r_iload_n (j := 1) rfl rfl dX5_isMissing_50 ?_
  refine r_iload (j := 3) rfl dX5_isMissing_51 ?_
  refine r_icmpne (x := v1) (y := v4) (tgt := 66) (by decide) dX5_isMissing_53 (fun hc => ?_) (fun hc => ?_)
  · replace hf := hf.1 hc
    exact r_sub [] rfl (b_X5_isMissing_66 hf)
  · replace hf := hf.2 hc
    refine r_iload_n (j := 2) rfl rfl dX5_isMissing_56 ?_
    refine r_iload (j := 0) rfl dX5_isMissing_57 ?_
    refine r_icmpne (x := v2) (y := s0) (tgt := 66) (by decide) dX5_isMissing_59 (fun hc => ?_) (fun hc => ?_)
    · replace hf := hf.1 hc
      exact r_sub [] rfl (b_X5_isMissing_66 hf)
    · replace hf := hf.2 hc
      refine r_iconst (v := 1) (by decide) dX5_isMissing_62 ?_
      refine r_goto (tgt := 67) (by decide) dX5_isMissing_63 ?_
      exact r_sub [] rfl (b_X5_isMissing_67 hf)
def F_X5_isMissing_30 (l : Launch) (G : GG) (d : Nat) (v0 : Nat) (v1 : Int32) (v2 : Int32) (v3 : Int32) (s0 : Int32) (σ : Hp) (K : Bool → Hp → Prop) : Prop :=
  ((2 : Int32) ≤ (v3 : Int32) →
    F_X5_isMissing_48 l G d v1 v2 s0 0 σ K) ∧
  (¬ (2 : Int32) ≤ (v3 : Int32) →
    C_X5_highWhen l G d v0 v3 σ fun r2 σ1 =>
    F_X5_isMissing_48 l G d v1 v2 s0 (r2 - 1) σ1 K)
set_option maxRecDepth 100000 in
set_option maxHeartbeats 4000000 in
theorem b_X5_isMissing_30 {l : Launch} {G : GG} {d : Nat} {v0 : Nat} {v1 : Int32} {v2 : Int32} {v3 : Int32} {s0 : Int32} {σ : Hp} {K : Bool → Hp → Prop} (hf : F_X5_isMissing_30 l G d v0 v1 v2 v3 s0 σ K) : Wd l G (d + 1) "CoinsLaid$Piece" yX5_isMissing cX5_isMissing 6 (some FieldType.boolean) 30 [(0, aR (some v0)), (1, aI v1), (2, aI v2), (3, aI v3)] [aI s0] σ 0 0 (xM (QZ K)) := by
  unfold F_X5_isMissing_30 at hf
  refine r_istore (L' := [(4, aI s0), (0, aR (some v0)), (1, aI v1), (2, aI v2), (3, aI v3)]) rfl (Nat.le_of_ble_eq_true rfl) dX5_isMissing_30 ?_
  refine r_iload_n (j := 4) rfl rfl dX5_isMissing_32 ?_
  refine r_iconst (v := 2) (by decide) dX5_isMissing_33 ?_
  refine r_icmpge (x := v3) (y := 2) (tgt := 47) (by decide) dX5_isMissing_34 (fun hc => ?_) (fun hc => ?_)
  · replace hf := hf.1 hc
    refine r_iconst (v := 0) (by decide) dX5_isMissing_47 ?_
    exact r_sub [2, 3, 0] rfl (b_X5_isMissing_48 hf)
  · replace hf := hf.2 hc
    refine r_aload_n (j := 1) rfl rfl dX5_isMissing_37 ?_
    refine r_iload_n (j := 4) rfl rfl dX5_isMissing_38 ?_
    try unfold C_X5_highWhen at hf
    obtain ⟨⟨fs_r2, ha_r2⟩, hf⟩ := hf
    refine r_invVI (t := 5) (As := [aI v3]) (dz := d) (mz := 0) (sz := 0) rfl wd_4_1 wd_4_3 wd_p_24 cf_X5_highWhen (Nat.le_refl _) (Nat.zero_le _) (Nat.zero_le _) (cat_ok (Nat.le_of_ble_eq_true rfl)) rfl rfl ha_r2 dX5_isMissing_39 hf (fun r2 σ1 hk => ?_)
    replace hf := hk
    clear hk
    refine r_iconst (v := 1) (by decide) dX5_isMissing_42 ?_
    refine r_isub (x := r2) (y := 1) dX5_isMissing_43 ?_
    refine r_goto (tgt := 48) (by decide) dX5_isMissing_44 ?_
    exact r_sub [2, 3, 0] rfl (b_X5_isMissing_48 hf)
def F_X5_isMissing_19 (l : Launch) (G : GG) (d : Nat) (v0 : Nat) (v1 : Int32) (v2 : Int32) (v3 : Int32) (σ : Hp) (K : Bool → Hp → Prop) : Prop :=
  C_X5_wideWhen l G d v0 v3 σ fun r4 σ3 =>
  F_X5_isMissing_30 l G d v0 v1 v2 v3 (r4 - 1) σ3 K
set_option maxRecDepth 100000 in
set_option maxHeartbeats 4000000 in
theorem b_X5_isMissing_19 {l : Launch} {G : GG} {d : Nat} {v0 : Nat} {v1 : Int32} {v2 : Int32} {v3 : Int32} {σ : Hp} {K : Bool → Hp → Prop} (hf : F_X5_isMissing_19 l G d v0 v1 v2 v3 σ K) : Wd l G (d + 1) "CoinsLaid$Piece" yX5_isMissing cX5_isMissing 6 (some FieldType.boolean) 19 [(0, aR (some v0)), (1, aI v1), (2, aI v2), (3, aI v3)] [] σ 0 0 (xM (QZ K)) := by
  unfold F_X5_isMissing_19 at hf
  refine r_aload_n (j := 0) rfl rfl dX5_isMissing_19 ?_
  refine r_iload_n (j := 3) rfl rfl dX5_isMissing_20 ?_
  try unfold C_X5_wideWhen at hf
  obtain ⟨⟨fs_r4, ha_r4⟩, hf⟩ := hf
  refine r_invVI (t := 5) (As := [aI v3]) (dz := d) (mz := 0) (sz := 0) rfl wd_3_237 wd_3_239 wd_p_23 cf_X5_wideWhen (Nat.le_refl _) (Nat.zero_le _) (Nat.zero_le _) (cat_ok (Nat.le_of_ble_eq_true rfl)) rfl rfl ha_r4 dX5_isMissing_21 hf (fun r4 σ3 hk => ?_)
  replace hf := hk
  clear hk
  refine r_iconst (v := 1) (by decide) dX5_isMissing_24 ?_
  refine r_isub (x := r4) (y := 1) dX5_isMissing_25 ?_
  refine r_goto (tgt := 30) (by decide) dX5_isMissing_26 ?_
  exact r_sub [0, 1, 2, 3] rfl (b_X5_isMissing_30 hf)
def F_X5_isMissing (l : Launch) (G : GG) (d : Nat) (v0 : Nat) (v1 : Int32) (v2 : Int32) (v3 : Int32) (σ : Hp) (K : Bool → Hp → Prop) : Prop :=
  fI σ v0 5 2 fun x5 =>
  ((x5 : Int32) = (2 : Int32) →
    ((v3 : Int32) = 0 →
      F_X5_isMissing_19 l G d v0 v1 v2 v3 σ K) ∧
    (¬ (v3 : Int32) = 0 →
      (¬ (v3 : Int32) = (3 : Int32) →
        F_X5_isMissing_30 l G d v0 v1 v2 v3 0 σ K) ∧
      ((v3 : Int32) = (3 : Int32) →
        F_X5_isMissing_19 l G d v0 v1 v2 v3 σ K))) ∧
  (¬ (x5 : Int32) = (2 : Int32) →
    K false σ)
set_option maxRecDepth 100000 in
set_option maxHeartbeats 4000000 in
theorem b_X5_isMissing_0 {l : Launch} {G : GG} {d : Nat} {v0 : Nat} {v1 : Int32} {v2 : Int32} {v3 : Int32} {σ : Hp} {K : Bool → Hp → Prop} (hf : F_X5_isMissing l G d v0 v1 v2 v3 σ K) : Wd l G (d + 1) "CoinsLaid$Piece" yX5_isMissing cX5_isMissing 6 (some FieldType.boolean) 0 [(0, aR (some v0)), (1, aI v1), (2, aI v2), (3, aI v3)] [] σ 0 0 (xM (QZ K)) := by
  unfold F_X5_isMissing at hf
  refine r_aload_n (j := 0) rfl rfl dX5_isMissing_0 ?_
  obtain ⟨fs_x5, x5, ha_x5, hv_x5, hf⟩ := hf
  refine r_get (Cn := RX5) (Tt := TX5) (N := 7) (n := 2) rfl uw_X5 (Nat.le_of_ble_eq_true rfl) wd_3_188 ha_x5 hv_x5 dX5_isMissing_1 ?_
  refine r_iconst (v := 2) (by decide) dX5_isMissing_4 ?_
  refine r_icmpeq (x := x5) (y := 2) (tgt := 10) (by decide) dX5_isMissing_5 (fun hc => ?_) (fun hc => ?_)
  · replace hf := hf.1 hc
    refine r_iload_n (j := 3) rfl rfl dX5_isMissing_10 ?_
    refine r_ifeq (x := v3) (tgt := 19) (by decide) dX5_isMissing_11 (fun hc => ?_) (fun hc => ?_)
    · replace hf := hf.1 hc
      exact r_sub [0, 1, 2, 3] rfl (b_X5_isMissing_19 hf)
    · replace hf := hf.2 hc
      refine r_iload_n (j := 3) rfl rfl dX5_isMissing_14 ?_
      refine r_iconst (v := 3) (by decide) dX5_isMissing_15 ?_
      refine r_icmpne (x := v3) (y := 3) (tgt := 29) (by decide) dX5_isMissing_16 (fun hc => ?_) (fun hc => ?_)
      · replace hf := hf.1 hc
        refine r_iconst (v := 0) (by decide) dX5_isMissing_29 ?_
        exact r_sub [0, 1, 2, 3] rfl (b_X5_isMissing_30 hf)
      · replace hf := hf.2 hc
        exact r_sub [0, 1, 2, 3] rfl (b_X5_isMissing_19 hf)
  · replace hf := hf.2 hc
    refine r_iconst (v := 0) (by decide) dX5_isMissing_8 ?_
    exact r_zreturn (b := false) rfl dX5_isMissing_9 rfl ⟨_, rfl, hf⟩
theorem m_X5_isMissing {l : Launch} {G : GG} {d : Nat} {v0 : Nat} {v1 : Int32} {v2 : Int32} {v3 : Int32} {σ : Hp} {K : Bool → Hp → Prop} (hr : rv σ v0 5) (hf : F_X5_isMissing l G d v0 v1 v2 v3 σ K) : C_X5_isMissing l G (d + 1) v0 v1 v2 v3 σ K := ⟨hr, Sp.of (by decide) (Nat.le_of_ble_eq_true rfl) (b_X5_isMissing_0 hf) rfl⟩
def F_X10_init (l : Launch) (G : GG) (d : Nat) (v0 : Nat) (v1 : Nat) (v2 : Int32) (σ : Hp) (K : Hp → Prop) : Prop :=
  pF σ v0 10 0 (aR (some v1)) fun σ1 =>
  pF σ1 v0 10 1 (aI v2) fun σ3 =>
  K σ3
set_option maxRecDepth 100000 in
set_option maxHeartbeats 4000000 in
theorem b_X10_init_0 {l : Launch} {G : GG} {d : Nat} {v0 : Nat} {v1 : Nat} {v2 : Int32} {σ : Hp} {K : Hp → Prop} (hf : F_X10_init l G d v0 v1 v2 σ K) : Wd l G (d + 1) "CoinsLaid$Tokens" yX10_init cX10_init 3 none 0 [(0, aR (some v0)), (1, aR (some v1)), (2, aI v2)] [] σ 0 0 (xM (QV K)) := by
  unfold F_X10_init at hf
  refine r_aload_n (j := 0) rfl rfl dX10_init_0 ?_
  refine r_objInit wd_1_237 wd_1_37 wd_1_38 (Nat.le_add_left 1 d) (cat_ok (Nat.le_of_ble_eq_true rfl)) dX10_init_1 ?_
  refine r_aload_n (j := 0) rfl rfl dX10_init_4 ?_
  refine r_aload_n (j := 1) rfl rfl dX10_init_5 ?_
  obtain ⟨fs_x2, ha_x2, hf⟩ := hf
  generalize hσ1 : hset σ v0 (.inl (10, fs_x2.set 0 (aR (some v1)))) = σ1 at hf
  refine r_putF (Cn := RX10) (Tt := TX10) (N := 5) (n := 0) (v := aR (some v1)) rfl uw_X10 (Nat.le_of_ble_eq_true rfl) wd_1_238 ha_x2 (ty0 := tyX10) tyX10_ok nmX10 rfl rfl rfl (fo_A _ (some v1)) dX10_init_6 ?_
  rw [hσ1]
  refine r_aload_n (j := 0) rfl rfl dX10_init_9 ?_
  refine r_iload_n (j := 2) rfl rfl dX10_init_10 ?_
  obtain ⟨fs_x4, ha_x4, hf⟩ := hf
  generalize hσ3 : hset σ1 v0 (.inl (10, fs_x4.set 1 (aI v2))) = σ3 at hf
  refine r_putF (Cn := RX10) (Tt := TX10) (N := 5) (n := 1) (v := aI v2) rfl uw_X10 (Nat.le_of_ble_eq_true rfl) wd_1_239 ha_x4 (ty0 := tyX10) tyX10_ok nmX10 rfl rfl rfl (fo_I v2) dX10_init_11 ?_
  rw [hσ3]
  exact r_return rfl dX10_init_14 rfl ⟨rfl, hf⟩
theorem m_X10_init {l : Launch} {G : GG} {d : Nat} {v0 : Nat} {v1 : Nat} {v2 : Int32} {σ : Hp} {K : Hp → Prop} (hf : F_X10_init l G d v0 v1 v2 σ K) : C_X10_init l G (d + 1) v0 v1 v2 σ K := Sp.of (by decide) (Nat.le_of_ble_eq_true rfl) (b_X10_init_0 hf) rfl
def F_X10_advance_98 (l : Launch) (G : GG) (d : Nat) (σ : Hp) (K : Hp → Prop) : Prop :=
  K σ
set_option maxRecDepth 100000 in
set_option maxHeartbeats 4000000 in
theorem b_X10_advance_98 {l : Launch} {G : GG} {d : Nat} {σ : Hp} {K : Hp → Prop} (hf : F_X10_advance_98 l G d  σ K) : Wd l G (d + 1) "CoinsLaid$Tokens" yX10_advance cX10_advance 2 none 98 [] [] σ 0 0 (xM (QV K)) := by
  unfold F_X10_advance_98 at hf
  exact r_return rfl dX10_advance_98 rfl ⟨rfl, hf⟩
def F_X10_advance_93 (l : Launch) (G : GG) (d : Nat) (v0 : Nat) (σ : Hp) (K : Hp → Prop) : Prop :=
  pF σ v0 10 3 (aI 4) fun σ1 =>
  F_X10_advance_98 l G d σ1 K
set_option maxRecDepth 100000 in
set_option maxHeartbeats 4000000 in
theorem b_X10_advance_93 {l : Launch} {G : GG} {d : Nat} {v0 : Nat} {σ : Hp} {K : Hp → Prop} (hf : F_X10_advance_93 l G d v0 σ K) : Wd l G (d + 1) "CoinsLaid$Tokens" yX10_advance cX10_advance 2 none 93 [(0, aR (some v0))] [] σ 0 0 (xM (QV K)) := by
  unfold F_X10_advance_93 at hf
  refine r_aload_n (j := 0) rfl rfl dX10_advance_93 ?_
  refine r_iconst (v := 4) (by decide) dX10_advance_94 ?_
  obtain ⟨fs_x2, ha_x2, hf⟩ := hf
  generalize hσ1 : hset σ v0 (.inl (10, fs_x2.set 3 (aI 4))) = σ1 at hf
  refine r_put (Cn := RX10) (Tt := TX10) (N := 5) (n := 3) (v := aI 4) rfl uw_X10 (Nat.le_of_ble_eq_true rfl) wd_2_3 ha_x2 (ty0 := tyX10) tyX10_ok nmX10 rfl (fo_I 4) dX10_advance_95 ?_
  rw [hσ1]
  exact r_sub [] rfl (b_X10_advance_98 hf)
def F_X10_advance_77 (l : Launch) (G : GG) (d : Nat) (v0 : Nat) (σ : Hp) (K : Hp → Prop) : Prop :=
  fI σ v0 10 3 fun x3 =>
  (¬ (x3 : Int32) = (2 : Int32) →
    F_X10_advance_98 l G d σ K) ∧
  ((x3 : Int32) = (2 : Int32) →
    fI σ v0 10 4 fun x4 =>
    ((x4 : Int32) ≤ (3 : Int32) →
      F_X10_advance_98 l G d σ K) ∧
    (¬ (x4 : Int32) ≤ (3 : Int32) →
      F_X10_advance_93 l G d v0 σ K))
set_option maxRecDepth 100000 in
set_option maxHeartbeats 4000000 in
theorem b_X10_advance_77 {l : Launch} {G : GG} {d : Nat} {v0 : Nat} {σ : Hp} {K : Hp → Prop} (hf : F_X10_advance_77 l G d v0 σ K) : Wd l G (d + 1) "CoinsLaid$Tokens" yX10_advance cX10_advance 2 none 77 [(0, aR (some v0))] [] σ 0 0 (xM (QV K)) := by
  unfold F_X10_advance_77 at hf
  refine r_aload_n (j := 0) rfl rfl dX10_advance_77 ?_
  obtain ⟨fs_x3, x3, ha_x3, hv_x3, hf⟩ := hf
  refine r_get (Cn := RX10) (Tt := TX10) (N := 5) (n := 3) rfl uw_X10 (Nat.le_of_ble_eq_true rfl) wd_2_3 ha_x3 hv_x3 dX10_advance_78 ?_
  refine r_iconst (v := 2) (by decide) dX10_advance_81 ?_
  refine r_icmpne (x := x3) (y := 2) (tgt := 98) (by decide) dX10_advance_82 (fun hc => ?_) (fun hc => ?_)
  · replace hf := hf.1 hc
    exact r_sub [] rfl (b_X10_advance_98 hf)
  · replace hf := hf.2 hc
    refine r_aload_n (j := 0) rfl rfl dX10_advance_85 ?_
    obtain ⟨fs_x4, x4, ha_x4, hv_x4, hf⟩ := hf
    refine r_get (Cn := RX10) (Tt := TX10) (N := 5) (n := 4) rfl uw_X10 (Nat.le_of_ble_eq_true rfl) wd_2_5 ha_x4 hv_x4 dX10_advance_86 ?_
    refine r_iconst (v := 3) (by decide) dX10_advance_89 ?_
    refine r_icmple (x := x4) (y := 3) (tgt := 98) (by decide) dX10_advance_90 (fun hc => ?_) (fun hc => ?_)
    · replace hf := hf.1 hc
      exact r_sub [] rfl (b_X10_advance_98 hf)
    · replace hf := hf.2 hc
      exact r_sub [0] rfl (b_X10_advance_93 hf)
def F_X10_advance_34 (l : Launch) (G : GG) (d : Nat) (v0 : Nat) (v1 : Int32) (σ : Hp) (K : Hp → Prop) : Prop :=
  pF σ v0 10 2 (aI v1) fun σ5 =>
  C_X10_byteAt l G d v0 v1 σ5 fun r8 σ7 =>
  C_X10_kindOf l G d r8 σ7 fun r10 σ9 =>
  pF σ9 v0 10 3 (aI r10) fun σ11 =>
  C_X10_runFrom l G d v0 v1 σ11 fun r14 σ13 =>
  pF σ13 v0 10 4 (aI r14) fun σ15 =>
  fI σ15 v0 10 3 fun x17 =>
  (¬ (x17 : Int32) = (1 : Int32) →
    F_X10_advance_77 l G d v0 σ15 K) ∧
  ((x17 : Int32) = (1 : Int32) →
    fI σ15 v0 10 4 fun x18 =>
    ((8 : Int32) < (x18 : Int32) →
      F_X10_advance_93 l G d v0 σ15 K) ∧
    (¬ (8 : Int32) < (x18 : Int32) →
      F_X10_advance_77 l G d v0 σ15 K))
set_option maxRecDepth 100000 in
set_option maxHeartbeats 4000000 in
theorem b_X10_advance_34 {l : Launch} {G : GG} {d : Nat} {v0 : Nat} {v1 : Int32} {σ : Hp} {K : Hp → Prop} (hf : F_X10_advance_34 l G d v0 v1 σ K) : Wd l G (d + 1) "CoinsLaid$Tokens" yX10_advance cX10_advance 2 none 34 [(0, aR (some v0)), (1, aI v1)] [] σ 0 0 (xM (QV K)) := by
  unfold F_X10_advance_34 at hf
  refine r_aload_n (j := 0) rfl rfl dX10_advance_34 ?_
  refine r_iload_n (j := 1) rfl rfl dX10_advance_35 ?_
  obtain ⟨fs_x6, ha_x6, hf⟩ := hf
  generalize hσ5 : hset σ v0 (.inl (10, fs_x6.set 2 (aI v1))) = σ5 at hf
  refine r_put (Cn := RX10) (Tt := TX10) (N := 5) (n := 2) (v := aI v1) rfl uw_X10 (Nat.le_of_ble_eq_true rfl) wd_2_1 ha_x6 (ty0 := tyX10) tyX10_ok nmX10 rfl (fo_I v1) dX10_advance_36 ?_
  rw [hσ5]
  refine r_aload_n (j := 0) rfl rfl dX10_advance_39 ?_
  refine r_aload_n (j := 0) rfl rfl dX10_advance_40 ?_
  refine r_iload_n (j := 1) rfl rfl dX10_advance_41 ?_
  try unfold C_X10_byteAt at hf
  obtain ⟨⟨fs_r8, ha_r8⟩, hf⟩ := hf
  refine r_invVI (t := 10) (As := [aI v1]) (dz := d) (mz := 0) (sz := 0) rfl wd_2_138 wd_2_140 wd_p_2 cf_X10_byteAt (Nat.le_refl _) (Nat.zero_le _) (Nat.zero_le _) (cat_ok (Nat.le_of_ble_eq_true rfl)) rfl rfl ha_r8 dX10_advance_42 hf (fun r8 σ7 hk => ?_)
  replace hf := hk
  clear hk
  try unfold C_X10_kindOf at hf
  refine r_invSI (As := [aI r8]) (dz := d) (mz := 0) (sz := 0) rfl wd_2_142 wd_2_143 cf_X10_kindOf (Nat.le_refl _) (Nat.zero_le _) (Nat.zero_le _) (cat_ok (Nat.le_of_ble_eq_true rfl)) dX10_advance_45 hf (fun r10 σ9 hk => ?_)
  replace hf := hk
  clear hk
  obtain ⟨fs_x12, ha_x12, hf⟩ := hf
  generalize hσ11 : hset σ9 v0 (.inl (10, fs_x12.set 3 (aI r10))) = σ11 at hf
  refine r_put (Cn := RX10) (Tt := TX10) (N := 5) (n := 3) (v := aI r10) rfl uw_X10 (Nat.le_of_ble_eq_true rfl) wd_2_3 ha_x12 (ty0 := tyX10) tyX10_ok nmX10 rfl (fo_I r10) dX10_advance_48 ?_
  rw [hσ11]
  refine r_aload_n (j := 0) rfl rfl dX10_advance_51 ?_
  refine r_aload_n (j := 0) rfl rfl dX10_advance_52 ?_
  refine r_iload_n (j := 1) rfl rfl dX10_advance_53 ?_
  try unfold C_X10_runFrom at hf
  obtain ⟨⟨fs_r14, ha_r14⟩, hf⟩ := hf
  refine r_invVI (t := 10) (As := [aI v1]) (dz := d) (mz := 0) (sz := 0) rfl wd_2_145 wd_2_147 wd_p_3 cf_X10_runFrom (Nat.le_refl _) (Nat.zero_le _) (Nat.zero_le _) (cat_ok (Nat.le_of_ble_eq_true rfl)) rfl rfl ha_r14 dX10_advance_54 hf (fun r14 σ13 hk => ?_)
  replace hf := hk
  clear hk
  obtain ⟨fs_x16, ha_x16, hf⟩ := hf
  generalize hσ15 : hset σ13 v0 (.inl (10, fs_x16.set 4 (aI r14))) = σ15 at hf
  refine r_put (Cn := RX10) (Tt := TX10) (N := 5) (n := 4) (v := aI r14) rfl uw_X10 (Nat.le_of_ble_eq_true rfl) wd_2_5 ha_x16 (ty0 := tyX10) tyX10_ok nmX10 rfl (fo_I r14) dX10_advance_57 ?_
  rw [hσ15]
  refine r_aload_n (j := 0) rfl rfl dX10_advance_60 ?_
  obtain ⟨fs_x17, x17, ha_x17, hv_x17, hf⟩ := hf
  refine r_get (Cn := RX10) (Tt := TX10) (N := 5) (n := 3) rfl uw_X10 (Nat.le_of_ble_eq_true rfl) wd_2_3 ha_x17 hv_x17 dX10_advance_61 ?_
  refine r_iconst (v := 1) (by decide) dX10_advance_64 ?_
  refine r_icmpne (x := x17) (y := 1) (tgt := 77) (by decide) dX10_advance_65 (fun hc => ?_) (fun hc => ?_)
  · replace hf := hf.1 hc
    exact r_sub [0] rfl (b_X10_advance_77 hf)
  · replace hf := hf.2 hc
    refine r_aload_n (j := 0) rfl rfl dX10_advance_68 ?_
    obtain ⟨fs_x18, x18, ha_x18, hv_x18, hf⟩ := hf
    refine r_get (Cn := RX10) (Tt := TX10) (N := 5) (n := 4) rfl uw_X10 (Nat.le_of_ble_eq_true rfl) wd_2_5 ha_x18 hv_x18 dX10_advance_69 ?_
    refine r_bipush (v := 8) (by decide) dX10_advance_72 ?_
    refine r_icmpgt (x := x18) (y := 8) (tgt := 93) (by decide) dX10_advance_74 (fun hc => ?_) (fun hc => ?_)
    · replace hf := hf.1 hc
      exact r_sub [0] rfl (b_X10_advance_93 hf)
    · replace hf := hf.2 hc
      exact r_sub [0] rfl (b_X10_advance_77 hf)
def F_X10_advance_10 (l : Launch) (G : GG) (d : Nat) (X10 : Nat → Int32 → Hp → Prop) (v0 : Nat) (v1 : Int32) (σ : Hp) (K : Hp → Prop) : Prop :=
  fI σ v0 10 1 fun x19 =>
  ((x19 : Int32) ≤ (v1 : Int32) →
    F_X10_advance_34 l G d v0 v1 σ K) ∧
  (¬ (x19 : Int32) ≤ (v1 : Int32) →
    C_X10_byteAt l G d v0 v1 σ fun r21 σ20 =>
    (¬ (r21 : Int32) = (32 : Int32) →
      F_X10_advance_34 l G d v0 v1 σ20 K) ∧
    ((r21 : Int32) = (32 : Int32) →
      X10 v0 (v1 + 1) σ20))
set_option maxRecDepth 100000 in
set_option maxHeartbeats 4000000 in
theorem b_X10_advance_10 {l : Launch} {G : GG} {d : Nat} {X10 : Nat → Int32 → Hp → Prop} {v0 : Nat} {v1 : Int32} {σ : Hp} {K : Hp → Prop} (hX10 : ∀ v0 v1 σ, X10 v0 v1 σ → Wd l G (d + 1) "CoinsLaid$Tokens" yX10_advance cX10_advance 2 none 10 [(0, aR (some v0)), (1, aI v1)] [] σ 0 0 (xM (QV K))) (hf : F_X10_advance_10 l G d X10 v0 v1 σ K) : Wd l G (d + 1) "CoinsLaid$Tokens" yX10_advance cX10_advance 2 none 10 [(0, aR (some v0)), (1, aI v1)] [] σ 0 0 (xM (QV K)) := by
  unfold F_X10_advance_10 at hf
  refine r_iload_n (j := 1) rfl rfl dX10_advance_10 ?_
  refine r_aload_n (j := 0) rfl rfl dX10_advance_11 ?_
  obtain ⟨fs_x19, x19, ha_x19, hv_x19, hf⟩ := hf
  refine r_get (Cn := RX10) (Tt := TX10) (N := 5) (n := 1) rfl uw_X10 (Nat.le_of_ble_eq_true rfl) wd_1_239 ha_x19 hv_x19 dX10_advance_12 ?_
  refine r_icmpge (x := v1) (y := x19) (tgt := 34) (by decide) dX10_advance_15 (fun hc => ?_) (fun hc => ?_)
  · replace hf := hf.1 hc
    exact r_sub [0, 1] rfl (b_X10_advance_34 hf)
  · replace hf := hf.2 hc
    refine r_aload_n (j := 0) rfl rfl dX10_advance_18 ?_
    refine r_iload_n (j := 1) rfl rfl dX10_advance_19 ?_
    try unfold C_X10_byteAt at hf
    obtain ⟨⟨fs_r21, ha_r21⟩, hf⟩ := hf
    refine r_invVI (t := 10) (As := [aI v1]) (dz := d) (mz := 0) (sz := 0) rfl wd_2_138 wd_2_140 wd_p_2 cf_X10_byteAt (Nat.le_refl _) (Nat.zero_le _) (Nat.zero_le _) (cat_ok (Nat.le_of_ble_eq_true rfl)) rfl rfl ha_r21 dX10_advance_20 hf (fun r21 σ20 hk => ?_)
    replace hf := hk
    clear hk
    refine r_bipush (v := 32) (by decide) dX10_advance_23 ?_
    refine r_icmpne (x := r21) (y := 32) (tgt := 34) (by decide) dX10_advance_25 (fun hc => ?_) (fun hc => ?_)
    · replace hf := hf.1 hc
      exact r_sub [0, 1] rfl (b_X10_advance_34 hf)
    · replace hf := hf.2 hc
      refine r_iinc (j := 1) (w := (v1 + 1)) (L' := [(1, aI (v1 + 1)), (0, aR (some v0))]) rfl (by rfl) rfl (Nat.le_of_ble_eq_true rfl) dX10_advance_28 ?_
      refine r_goto (tgt := 10) (by decide) dX10_advance_31 ?_
      exact r_sub [1, 0] rfl (hX10 _ _ _ hf)
def Z_X10_advance_10 (l : Launch) (G : GG) (d : Nat) (K : Hp → Prop) : Nat → Nat → Int32 → Hp → Prop
  | 0 => fun _ _ _ => False
  | n + 1 => fun v0 v1 σ => F_X10_advance_10 l G d (Z_X10_advance_10 l G d K n) v0 v1 σ K
theorem z_X10_advance_10 {l : Launch} {G : GG} {d : Nat} {K : Hp → Prop} : ∀ (n : Nat) v0 v1 σ, Z_X10_advance_10 l G d K n v0 v1 σ → Wd l G (d + 1) "CoinsLaid$Tokens" yX10_advance cX10_advance 2 none 10 [(0, aR (some v0)), (1, aI v1)] [] σ 0 0 (xM (QV K)) := by
  intro n
  induction n with
  | zero => intro v0 v1 σ hf; exact hf.elim
  | succ n ih => intro v0 v1 σ hf; exact b_X10_advance_10 ih hf
def F_X10_advance (l : Launch) (G : GG) (d : Nat) (v0 : Nat) (σ : Hp) (K : Hp → Prop) : Prop :=
  fI σ v0 10 2 fun x22 =>
  fI σ v0 10 4 fun x23 =>
  ∃ n, Z_X10_advance_10 l G d K n v0 (x22 + x23) σ
set_option maxRecDepth 100000 in
set_option maxHeartbeats 4000000 in
theorem b_X10_advance_0 {l : Launch} {G : GG} {d : Nat} {v0 : Nat} {σ : Hp} {K : Hp → Prop} (hf : F_X10_advance l G d v0 σ K) : Wd l G (d + 1) "CoinsLaid$Tokens" yX10_advance cX10_advance 2 none 0 [(0, aR (some v0))] [] σ 0 0 (xM (QV K)) := by
  unfold F_X10_advance at hf
  refine r_aload_n (j := 0) rfl rfl dX10_advance_0 ?_
  obtain ⟨fs_x22, x22, ha_x22, hv_x22, hf⟩ := hf
  refine r_get (Cn := RX10) (Tt := TX10) (N := 5) (n := 2) rfl uw_X10 (Nat.le_of_ble_eq_true rfl) wd_2_1 ha_x22 hv_x22 dX10_advance_1 ?_
  refine r_aload_n (j := 0) rfl rfl dX10_advance_4 ?_
  obtain ⟨fs_x23, x23, ha_x23, hv_x23, hf⟩ := hf
  refine r_get (Cn := RX10) (Tt := TX10) (N := 5) (n := 4) rfl uw_X10 (Nat.le_of_ble_eq_true rfl) wd_2_5 ha_x23 hv_x23 dX10_advance_5 ?_
  refine r_iadd (x := x22) (y := x23) dX10_advance_8 ?_
  refine r_istore_n (L' := [(1, aI (x22 + x23)), (0, aR (some v0))]) rfl rfl (Nat.le_of_ble_eq_true rfl) dX10_advance_9 ?_
  obtain ⟨n, hf⟩ := hf
  exact r_sub [1, 0] rfl (z_X10_advance_10 n _ _ _ hf)
theorem m_X10_advance {l : Launch} {G : GG} {d : Nat} {v0 : Nat} {σ : Hp} {K : Hp → Prop} (hr : rv σ v0 10) (hf : F_X10_advance l G d v0 σ K) : C_X10_advance l G (d + 1) v0 σ K := ⟨hr, Sp.of (by decide) (Nat.le_of_ble_eq_true rfl) (b_X10_advance_0 hf) rfl⟩
def F_X10_runFrom_28 (l : Launch) (G : GG) (d : Nat) (s0 : Bool) (σ : Hp) (K : Int32 → Hp → Prop) : Prop :=
  K (bi s0) σ
set_option maxRecDepth 100000 in
set_option maxHeartbeats 4000000 in
theorem b_X10_runFrom_28 {l : Launch} {G : GG} {d : Nat} {s0 : Bool} {σ : Hp} {K : Int32 → Hp → Prop} (hf : F_X10_runFrom_28 l G d s0 σ K) : Wd l G (d + 1) "CoinsLaid$Tokens" yX10_runFrom cX10_runFrom 3 (some FieldType.int) 28 [] [aI (bi s0)] σ 0 0 (xM (QI K)) := by
  unfold F_X10_runFrom_28 at hf
  exact r_ireturn rfl dX10_runFrom_28 rfl ⟨_, rfl, hf⟩
def F_X10_runFrom_62 (l : Launch) (G : GG) (d : Nat) (v1 : Int32) (v2 : Int32) (σ : Hp) (K : Int32 → Hp → Prop) : Prop :=
  K (v2 - v1) σ
set_option maxRecDepth 100000 in
set_option maxHeartbeats 4000000 in
theorem b_X10_runFrom_62 {l : Launch} {G : GG} {d : Nat} {v1 : Int32} {v2 : Int32} {σ : Hp} {K : Int32 → Hp → Prop} (hf : F_X10_runFrom_62 l G d v1 v2 σ K) : Wd l G (d + 1) "CoinsLaid$Tokens" yX10_runFrom cX10_runFrom 3 (some FieldType.int) 62 [(1, aI v1), (2, aI v2)] [] σ 0 0 (xM (QI K)) := by
  unfold F_X10_runFrom_62 at hf
  refine r_iload_n (j := 1) rfl rfl dX10_runFrom_62 ?_
  refine r_iload_n (j := 0) rfl rfl dX10_runFrom_63 ?_
  refine r_isub (x := v2) (y := v1) dX10_runFrom_64 ?_
  exact r_ireturn rfl dX10_runFrom_65 rfl ⟨_, rfl, hf⟩
def F_X10_runFrom_33 (l : Launch) (G : GG) (d : Nat) (X33 : Nat → Int32 → Int32 → Hp → Prop) (v0 : Nat) (v1 : Int32) (v2 : Int32) (σ : Hp) (K : Int32 → Hp → Prop) : Prop :=
  fI σ v0 10 1 fun x1 =>
  ((x1 : Int32) ≤ (v2 : Int32) →
    F_X10_runFrom_62 l G d v1 v2 σ K) ∧
  (¬ (x1 : Int32) ≤ (v2 : Int32) →
    C_X10_byteAt l G d v0 v2 σ fun r3 σ2 =>
    C_X10_kindOf l G d r3 σ2 fun r5 σ4 =>
    fI σ4 v0 10 3 fun x6 =>
    (¬ (r5 : Int32) = (x6 : Int32) →
      F_X10_runFrom_62 l G d v1 v2 σ4 K) ∧
    ((r5 : Int32) = (x6 : Int32) →
      X33 v0 v1 (v2 + 1) σ4))
set_option maxRecDepth 100000 in
set_option maxHeartbeats 4000000 in
theorem b_X10_runFrom_33 {l : Launch} {G : GG} {d : Nat} {X33 : Nat → Int32 → Int32 → Hp → Prop} {v0 : Nat} {v1 : Int32} {v2 : Int32} {σ : Hp} {K : Int32 → Hp → Prop} (hX33 : ∀ v0 v1 v2 σ, X33 v0 v1 v2 σ → Wd l G (d + 1) "CoinsLaid$Tokens" yX10_runFrom cX10_runFrom 3 (some FieldType.int) 33 [(0, aR (some v0)), (1, aI v1), (2, aI v2)] [] σ 0 0 (xM (QI K))) (hf : F_X10_runFrom_33 l G d X33 v0 v1 v2 σ K) : Wd l G (d + 1) "CoinsLaid$Tokens" yX10_runFrom cX10_runFrom 3 (some FieldType.int) 33 [(0, aR (some v0)), (1, aI v1), (2, aI v2)] [] σ 0 0 (xM (QI K)) := by
  unfold F_X10_runFrom_33 at hf
  refine r_iload_n (j := 2) rfl rfl dX10_runFrom_33 ?_
  refine r_aload_n (j := 0) rfl rfl dX10_runFrom_34 ?_
  obtain ⟨fs_x1, x1, ha_x1, hv_x1, hf⟩ := hf
  refine r_get (Cn := RX10) (Tt := TX10) (N := 5) (n := 1) rfl uw_X10 (Nat.le_of_ble_eq_true rfl) wd_1_239 ha_x1 hv_x1 dX10_runFrom_35 ?_
  refine r_icmpge (x := v2) (y := x1) (tgt := 62) (by decide) dX10_runFrom_38 (fun hc => ?_) (fun hc => ?_)
  · replace hf := hf.1 hc
    exact r_sub [1, 2] rfl (b_X10_runFrom_62 hf)
  · replace hf := hf.2 hc
    refine r_aload_n (j := 0) rfl rfl dX10_runFrom_41 ?_
    refine r_iload_n (j := 2) rfl rfl dX10_runFrom_42 ?_
    try unfold C_X10_byteAt at hf
    obtain ⟨⟨fs_r3, ha_r3⟩, hf⟩ := hf
    refine r_invVI (t := 10) (As := [aI v2]) (dz := d) (mz := 0) (sz := 0) rfl wd_2_138 wd_2_140 wd_p_2 cf_X10_byteAt (Nat.le_refl _) (Nat.zero_le _) (Nat.zero_le _) (cat_ok (Nat.le_of_ble_eq_true rfl)) rfl rfl ha_r3 dX10_runFrom_43 hf (fun r3 σ2 hk => ?_)
    replace hf := hk
    clear hk
    try unfold C_X10_kindOf at hf
    refine r_invSI (As := [aI r3]) (dz := d) (mz := 0) (sz := 0) rfl wd_2_142 wd_2_143 cf_X10_kindOf (Nat.le_refl _) (Nat.zero_le _) (Nat.zero_le _) (cat_ok (Nat.le_of_ble_eq_true rfl)) dX10_runFrom_46 hf (fun r5 σ4 hk => ?_)
    replace hf := hk
    clear hk
    refine r_aload_n (j := 0) rfl rfl dX10_runFrom_49 ?_
    obtain ⟨fs_x6, x6, ha_x6, hv_x6, hf⟩ := hf
    refine r_get (Cn := RX10) (Tt := TX10) (N := 5) (n := 3) rfl uw_X10 (Nat.le_of_ble_eq_true rfl) wd_2_3 ha_x6 hv_x6 dX10_runFrom_50 ?_
    refine r_icmpne (x := r5) (y := x6) (tgt := 62) (by decide) dX10_runFrom_53 (fun hc => ?_) (fun hc => ?_)
    · replace hf := hf.1 hc
      exact r_sub [1, 2] rfl (b_X10_runFrom_62 hf)
    · replace hf := hf.2 hc
      refine r_iinc (j := 2) (w := (v2 + 1)) (L' := [(2, aI (v2 + 1)), (0, aR (some v0)), (1, aI v1)]) rfl (by rfl) rfl (Nat.le_of_ble_eq_true rfl) dX10_runFrom_56 ?_
      refine r_goto (tgt := 33) (by decide) dX10_runFrom_59 ?_
      exact r_sub [1, 2, 0] rfl (hX33 _ _ _ _ hf)
def Z_X10_runFrom_33 (l : Launch) (G : GG) (d : Nat) (K : Int32 → Hp → Prop) : Nat → Nat → Int32 → Int32 → Hp → Prop
  | 0 => fun _ _ _ _ => False
  | n + 1 => fun v0 v1 v2 σ => F_X10_runFrom_33 l G d (Z_X10_runFrom_33 l G d K n) v0 v1 v2 σ K
theorem z_X10_runFrom_33 {l : Launch} {G : GG} {d : Nat} {K : Int32 → Hp → Prop} : ∀ (n : Nat) v0 v1 v2 σ, Z_X10_runFrom_33 l G d K n v0 v1 v2 σ → Wd l G (d + 1) "CoinsLaid$Tokens" yX10_runFrom cX10_runFrom 3 (some FieldType.int) 33 [(0, aR (some v0)), (1, aI v1), (2, aI v2)] [] σ 0 0 (xM (QI K)) := by
  intro n
  induction n with
  | zero => intro v0 v1 v2 σ hf; exact hf.elim
  | succ n ih => intro v0 v1 v2 σ hf; exact b_X10_runFrom_33 ih hf
def F_X10_runFrom_29 (l : Launch) (G : GG) (d : Nat) (v0 : Nat) (v1 : Int32) (σ : Hp) (K : Int32 → Hp → Prop) : Prop :=
  ∃ n, Z_X10_runFrom_33 l G d K n v0 v1 (v1 + 1) σ
set_option maxRecDepth 100000 in
set_option maxHeartbeats 4000000 in
theorem b_X10_runFrom_29 {l : Launch} {G : GG} {d : Nat} {v0 : Nat} {v1 : Int32} {σ : Hp} {K : Int32 → Hp → Prop} (hf : F_X10_runFrom_29 l G d v0 v1 σ K) : Wd l G (d + 1) "CoinsLaid$Tokens" yX10_runFrom cX10_runFrom 3 (some FieldType.int) 29 [(0, aR (some v0)), (1, aI v1)] [] σ 0 0 (xM (QI K)) := by
  unfold F_X10_runFrom_29 at hf
  refine r_iload_n (j := 1) rfl rfl dX10_runFrom_29 ?_
  refine r_iconst (v := 1) (by decide) dX10_runFrom_30 ?_
  refine r_iadd (x := v1) (y := 1) dX10_runFrom_31 ?_
  refine r_istore_n (L' := [(2, aI (v1 + 1)), (0, aR (some v0)), (1, aI v1)]) rfl rfl (Nat.le_of_ble_eq_true rfl) dX10_runFrom_32 ?_
  obtain ⟨n, hf⟩ := hf
  exact r_sub [1, 2, 0] rfl (z_X10_runFrom_33 n _ _ _ _ hf)
def F_X10_runFrom (l : Launch) (G : GG) (d : Nat) (v0 : Nat) (v1 : Int32) (σ : Hp) (K : Int32 → Hp → Prop) : Prop :=
  fI σ v0 10 3 fun x7 =>
  ((x7 : Int32) = (1 : Int32) →
    F_X10_runFrom_29 l G d v0 v1 σ K) ∧
  (¬ (x7 : Int32) = (1 : Int32) →
    fI σ v0 10 3 fun x8 =>
    ((x8 : Int32) = (2 : Int32) →
      F_X10_runFrom_29 l G d v0 v1 σ K) ∧
    (¬ (x8 : Int32) = (2 : Int32) →
      fI σ v0 10 3 fun x9 =>
      (¬ (x9 : Int32) = 0 →
        F_X10_runFrom_28 l G d true σ K) ∧
      ((x9 : Int32) = 0 →
        F_X10_runFrom_28 l G d false σ K)))
set_option maxRecDepth 100000 in
set_option maxHeartbeats 4000000 in
theorem b_X10_runFrom_0 {l : Launch} {G : GG} {d : Nat} {v0 : Nat} {v1 : Int32} {σ : Hp} {K : Int32 → Hp → Prop} (hf : F_X10_runFrom l G d v0 v1 σ K) : Wd l G (d + 1) "CoinsLaid$Tokens" yX10_runFrom cX10_runFrom 3 (some FieldType.int) 0 [(0, aR (some v0)), (1, aI v1)] [] σ 0 0 (xM (QI K)) := by
  unfold F_X10_runFrom at hf
  refine r_aload_n (j := 0) rfl rfl dX10_runFrom_0 ?_
  obtain ⟨fs_x7, x7, ha_x7, hv_x7, hf⟩ := hf
  refine r_get (Cn := RX10) (Tt := TX10) (N := 5) (n := 3) rfl uw_X10 (Nat.le_of_ble_eq_true rfl) wd_2_3 ha_x7 hv_x7 dX10_runFrom_1 ?_
  refine r_iconst (v := 1) (by decide) dX10_runFrom_4 ?_
  refine r_icmpeq (x := x7) (y := 1) (tgt := 29) (by decide) dX10_runFrom_5 (fun hc => ?_) (fun hc => ?_)
  · replace hf := hf.1 hc
    exact r_sub [0, 1] rfl (b_X10_runFrom_29 hf)
  · replace hf := hf.2 hc
    refine r_aload_n (j := 0) rfl rfl dX10_runFrom_8 ?_
    obtain ⟨fs_x8, x8, ha_x8, hv_x8, hf⟩ := hf
    refine r_get (Cn := RX10) (Tt := TX10) (N := 5) (n := 3) rfl uw_X10 (Nat.le_of_ble_eq_true rfl) wd_2_3 ha_x8 hv_x8 dX10_runFrom_9 ?_
    refine r_iconst (v := 2) (by decide) dX10_runFrom_12 ?_
    refine r_icmpeq (x := x8) (y := 2) (tgt := 29) (by decide) dX10_runFrom_13 (fun hc => ?_) (fun hc => ?_)
    · replace hf := hf.1 hc
      exact r_sub [0, 1] rfl (b_X10_runFrom_29 hf)
    · replace hf := hf.2 hc
      refine r_aload_n (j := 0) rfl rfl dX10_runFrom_16 ?_
      obtain ⟨fs_x9, x9, ha_x9, hv_x9, hf⟩ := hf
      refine r_get (Cn := RX10) (Tt := TX10) (N := 5) (n := 3) rfl uw_X10 (Nat.le_of_ble_eq_true rfl) wd_2_3 ha_x9 hv_x9 dX10_runFrom_17 ?_
      refine r_ifne (x := x9) (tgt := 27) (by decide) dX10_runFrom_20 (fun hc => ?_) (fun hc => ?_)
      · replace hf := hf.1 hc
        refine r_iconst (v := 1) (by decide) dX10_runFrom_27 ?_
        exact r_sub [] rfl (b_X10_runFrom_28 hf)
      · replace hf := hf.2 hc
        refine r_iconst (v := 0) (by decide) dX10_runFrom_23 ?_
        refine r_goto (tgt := 28) (by decide) dX10_runFrom_24 ?_
        exact r_sub [] rfl (b_X10_runFrom_28 hf)
theorem m_X10_runFrom {l : Launch} {G : GG} {d : Nat} {v0 : Nat} {v1 : Int32} {σ : Hp} {K : Int32 → Hp → Prop} (hr : rv σ v0 10) (hf : F_X10_runFrom l G d v0 v1 σ K) : C_X10_runFrom l G (d + 1) v0 v1 σ K := ⟨hr, Sp.of (by decide) (Nat.le_of_ble_eq_true rfl) (b_X10_runFrom_0 hf) rfl⟩
def F_X10_kindOf_52 (l : Launch) (G : GG) (d : Nat) (s0 : Int32) (σ : Hp) (K : Int32 → Hp → Prop) : Prop :=
  K s0 σ
set_option maxRecDepth 100000 in
set_option maxHeartbeats 4000000 in
theorem b_X10_kindOf_52 {l : Launch} {G : GG} {d : Nat} {s0 : Int32} {σ : Hp} {K : Int32 → Hp → Prop} (hf : F_X10_kindOf_52 l G d s0 σ K) : Wd l G (d + 1) "CoinsLaid$Tokens" yX10_kindOf cX10_kindOf 1 (some FieldType.int) 52 [] [aI s0] σ 0 0 (xM (QI K)) := by
  unfold F_X10_kindOf_52 at hf
  exact r_ireturn rfl dX10_kindOf_52 rfl ⟨_, rfl, hf⟩
def F_X10_kindOf_47 (l : Launch) (G : GG) (d : Nat) (σ : Hp) (K : Int32 → Hp → Prop) : Prop :=
  F_X10_kindOf_52 l G d 3 σ K
set_option maxRecDepth 100000 in
set_option maxHeartbeats 4000000 in
theorem b_X10_kindOf_47 {l : Launch} {G : GG} {d : Nat} {σ : Hp} {K : Int32 → Hp → Prop} (hf : F_X10_kindOf_47 l G d  σ K) : Wd l G (d + 1) "CoinsLaid$Tokens" yX10_kindOf cX10_kindOf 1 (some FieldType.int) 47 [] [] σ 0 0 (xM (QI K)) := by
  unfold F_X10_kindOf_47 at hf
  refine r_iconst (v := 3) (by decide) dX10_kindOf_47 ?_
  refine r_goto (tgt := 52) (by decide) dX10_kindOf_48 ?_
  exact r_sub [] rfl (b_X10_kindOf_52 hf)
def F_X10_kindOf_35 (l : Launch) (G : GG) (d : Nat) (v0 : Int32) (σ : Hp) (K : Int32 → Hp → Prop) : Prop :=
  ((v0 : Int32) = (59 : Int32) →
    F_X10_kindOf_47 l G d σ K) ∧
  (¬ (v0 : Int32) = (59 : Int32) →
    (¬ (v0 : Int32) = (44 : Int32) →
      F_X10_kindOf_52 l G d 4 σ K) ∧
    ((v0 : Int32) = (44 : Int32) →
      F_X10_kindOf_47 l G d σ K))
set_option maxRecDepth 100000 in
set_option maxHeartbeats 4000000 in
theorem b_X10_kindOf_35 {l : Launch} {G : GG} {d : Nat} {v0 : Int32} {σ : Hp} {K : Int32 → Hp → Prop} (hf : F_X10_kindOf_35 l G d v0 σ K) : Wd l G (d + 1) "CoinsLaid$Tokens" yX10_kindOf cX10_kindOf 1 (some FieldType.int) 35 [(0, aI v0)] [] σ 0 0 (xM (QI K)) := by
  unfold F_X10_kindOf_35 at hf
  refine r_iload_n (j := 0) rfl rfl dX10_kindOf_35 ?_
  refine r_bipush (v := 59) (by decide) dX10_kindOf_36 ?_
  refine r_icmpeq (x := v0) (y := 59) (tgt := 47) (by decide) dX10_kindOf_38 (fun hc => ?_) (fun hc => ?_)
  · replace hf := hf.1 hc
    exact r_sub [] rfl (b_X10_kindOf_47 hf)
  · replace hf := hf.2 hc
    refine r_iload_n (j := 0) rfl rfl dX10_kindOf_41 ?_
    refine r_bipush (v := 44) (by decide) dX10_kindOf_42 ?_
    refine r_icmpne (x := v0) (y := 44) (tgt := 51) (by decide) dX10_kindOf_44 (fun hc => ?_) (fun hc => ?_)
    · replace hf := hf.1 hc
      refine r_iconst (v := 4) (by decide) dX10_kindOf_51 ?_
      exact r_sub [] rfl (b_X10_kindOf_52 hf)
    · replace hf := hf.2 hc
      exact r_sub [] rfl (b_X10_kindOf_47 hf)
def F_X10_kindOf_21 (l : Launch) (G : GG) (d : Nat) (v0 : Int32) (σ : Hp) (K : Int32 → Hp → Prop) : Prop :=
  ((v0 : Int32) < (48 : Int32) →
    F_X10_kindOf_35 l G d v0 σ K) ∧
  (¬ (v0 : Int32) < (48 : Int32) →
    ((57 : Int32) < (v0 : Int32) →
      F_X10_kindOf_35 l G d v0 σ K) ∧
    (¬ (57 : Int32) < (v0 : Int32) →
      K 2 σ))
set_option maxRecDepth 100000 in
set_option maxHeartbeats 4000000 in
theorem b_X10_kindOf_21 {l : Launch} {G : GG} {d : Nat} {v0 : Int32} {σ : Hp} {K : Int32 → Hp → Prop} (hf : F_X10_kindOf_21 l G d v0 σ K) : Wd l G (d + 1) "CoinsLaid$Tokens" yX10_kindOf cX10_kindOf 1 (some FieldType.int) 21 [(0, aI v0)] [] σ 0 0 (xM (QI K)) := by
  unfold F_X10_kindOf_21 at hf
  refine r_iload_n (j := 0) rfl rfl dX10_kindOf_21 ?_
  refine r_bipush (v := 48) (by decide) dX10_kindOf_22 ?_
  refine r_icmplt (x := v0) (y := 48) (tgt := 35) (by decide) dX10_kindOf_24 (fun hc => ?_) (fun hc => ?_)
  · replace hf := hf.1 hc
    exact r_sub [0] rfl (b_X10_kindOf_35 hf)
  · replace hf := hf.2 hc
    refine r_iload_n (j := 0) rfl rfl dX10_kindOf_27 ?_
    refine r_bipush (v := 57) (by decide) dX10_kindOf_28 ?_
    refine r_icmpgt (x := v0) (y := 57) (tgt := 35) (by decide) dX10_kindOf_30 (fun hc => ?_) (fun hc => ?_)
    · replace hf := hf.1 hc
      exact r_sub [0] rfl (b_X10_kindOf_35 hf)
    · replace hf := hf.2 hc
      refine r_iconst (v := 2) (by decide) dX10_kindOf_33 ?_
      exact r_ireturn rfl dX10_kindOf_34 rfl ⟨_, rfl, hf⟩
def F_X10_kindOf (l : Launch) (G : GG) (d : Nat) (v0 : Int32) (σ : Hp) (K : Int32 → Hp → Prop) : Prop :=
  (¬ (v0 : Int32) = ((-1) : Int32) →
    ((v0 : Int32) < (97 : Int32) →
      F_X10_kindOf_21 l G d v0 σ K) ∧
    (¬ (v0 : Int32) < (97 : Int32) →
      ((122 : Int32) < (v0 : Int32) →
        F_X10_kindOf_21 l G d v0 σ K) ∧
      (¬ (122 : Int32) < (v0 : Int32) →
        K 1 σ))) ∧
  ((v0 : Int32) = ((-1) : Int32) →
    K 0 σ)
set_option maxRecDepth 100000 in
set_option maxHeartbeats 4000000 in
theorem b_X10_kindOf_0 {l : Launch} {G : GG} {d : Nat} {v0 : Int32} {σ : Hp} {K : Int32 → Hp → Prop} (hf : F_X10_kindOf l G d v0 σ K) : Wd l G (d + 1) "CoinsLaid$Tokens" yX10_kindOf cX10_kindOf 1 (some FieldType.int) 0 [(0, aI v0)] [] σ 0 0 (xM (QI K)) := by
  unfold F_X10_kindOf at hf
  refine r_iload_n (j := 0) rfl rfl dX10_kindOf_0 ?_
  refine r_iconst (v := (-1)) (by decide) dX10_kindOf_1 ?_
  refine r_icmpne (x := v0) (y := (-1)) (tgt := 7) (by decide) dX10_kindOf_2 (fun hc => ?_) (fun hc => ?_)
  · replace hf := hf.1 hc
    refine r_iload_n (j := 0) rfl rfl dX10_kindOf_7 ?_
    refine r_bipush (v := 97) (by decide) dX10_kindOf_8 ?_
    refine r_icmplt (x := v0) (y := 97) (tgt := 21) (by decide) dX10_kindOf_10 (fun hc => ?_) (fun hc => ?_)
    · replace hf := hf.1 hc
      exact r_sub [0] rfl (b_X10_kindOf_21 hf)
    · replace hf := hf.2 hc
      refine r_iload_n (j := 0) rfl rfl dX10_kindOf_13 ?_
      refine r_bipush (v := 122) (by decide) dX10_kindOf_14 ?_
      refine r_icmpgt (x := v0) (y := 122) (tgt := 21) (by decide) dX10_kindOf_16 (fun hc => ?_) (fun hc => ?_)
      · replace hf := hf.1 hc
        exact r_sub [0] rfl (b_X10_kindOf_21 hf)
      · replace hf := hf.2 hc
        refine r_iconst (v := 1) (by decide) dX10_kindOf_19 ?_
        exact r_ireturn rfl dX10_kindOf_20 rfl ⟨_, rfl, hf⟩
  · replace hf := hf.2 hc
    refine r_iconst (v := 0) (by decide) dX10_kindOf_5 ?_
    exact r_ireturn rfl dX10_kindOf_6 rfl ⟨_, rfl, hf⟩
theorem m_X10_kindOf {l : Launch} {G : GG} {d : Nat} {v0 : Int32} {σ : Hp} {K : Int32 → Hp → Prop} (hf : F_X10_kindOf l G d v0 σ K) : C_X10_kindOf l G (d + 1) v0 σ K := Sp.of (by decide) (Nat.le_of_ble_eq_true rfl) (b_X10_kindOf_0 hf) rfl
def F_X10_byteAt_31 (l : Launch) (G : GG) (d : Nat) (s0 : Int32) (σ : Hp) (K : Int32 → Hp → Prop) : Prop :=
  K s0 σ
set_option maxRecDepth 100000 in
set_option maxHeartbeats 4000000 in
theorem b_X10_byteAt_31 {l : Launch} {G : GG} {d : Nat} {s0 : Int32} {σ : Hp} {K : Int32 → Hp → Prop} (hf : F_X10_byteAt_31 l G d s0 σ K) : Wd l G (d + 1) "CoinsLaid$Tokens" yX10_byteAt cX10_byteAt 2 (some FieldType.int) 31 [] [aI s0] σ 0 0 (xM (QI K)) := by
  unfold F_X10_byteAt_31 at hf
  exact r_ireturn rfl dX10_byteAt_31 rfl ⟨_, rfl, hf⟩
def F_X10_byteAt_30 (l : Launch) (G : GG) (d : Nat) (σ : Hp) (K : Int32 → Hp → Prop) : Prop :=
  F_X10_byteAt_31 l G d (-1) σ K
set_option maxRecDepth 100000 in
set_option maxHeartbeats 4000000 in
theorem b_X10_byteAt_30 {l : Launch} {G : GG} {d : Nat} {σ : Hp} {K : Int32 → Hp → Prop} (hf : F_X10_byteAt_30 l G d  σ K) : Wd l G (d + 1) "CoinsLaid$Tokens" yX10_byteAt cX10_byteAt 2 (some FieldType.int) 30 [] [] σ 0 0 (xM (QI K)) := by
  unfold F_X10_byteAt_30 at hf
  refine r_iconst (v := (-1)) (by decide) dX10_byteAt_30 ?_
  exact r_sub [] rfl (b_X10_byteAt_31 hf)
def F_X10_byteAt (l : Launch) (G : GG) (d : Nat) (v0 : Nat) (v1 : Int32) (σ : Hp) (K : Int32 → Hp → Prop) : Prop :=
  ((v1 : Int32) < 0 →
    F_X10_byteAt_30 l G d σ K) ∧
  (¬ (v1 : Int32) < 0 →
    fI σ v0 10 1 fun x1 =>
    ((x1 : Int32) ≤ (v1 : Int32) →
      F_X10_byteAt_30 l G d σ K) ∧
    (¬ (x1 : Int32) ≤ (v1 : Int32) →
      fN σ v0 10 0 fun x2 =>
      aL σ x2 fun x3 =>
      ((x3 : Int32) ≤ (v1 : Int32) →
        F_X10_byteAt_30 l G d σ K) ∧
      (¬ (x3 : Int32) ≤ (v1 : Int32) →
        fN σ v0 10 0 fun x4 =>
        gI σ x4 v1 fun x5 =>
        F_X10_byteAt_31 l G d x5 σ K)))
set_option maxRecDepth 100000 in
set_option maxHeartbeats 4000000 in
theorem b_X10_byteAt_0 {l : Launch} {G : GG} {d : Nat} {v0 : Nat} {v1 : Int32} {σ : Hp} {K : Int32 → Hp → Prop} (hf : F_X10_byteAt l G d v0 v1 σ K) : Wd l G (d + 1) "CoinsLaid$Tokens" yX10_byteAt cX10_byteAt 2 (some FieldType.int) 0 [(0, aR (some v0)), (1, aI v1)] [] σ 0 0 (xM (QI K)) := by
  unfold F_X10_byteAt at hf
  refine r_iload_n (j := 1) rfl rfl dX10_byteAt_0 ?_
  refine r_iflt (x := v1) (tgt := 30) (by decide) dX10_byteAt_1 (fun hc => ?_) (fun hc => ?_)
  · replace hf := hf.1 hc
    exact r_sub [] rfl (b_X10_byteAt_30 hf)
  · replace hf := hf.2 hc
    refine r_iload_n (j := 1) rfl rfl dX10_byteAt_4 ?_
    refine r_aload_n (j := 0) rfl rfl dX10_byteAt_5 ?_
    obtain ⟨fs_x1, x1, ha_x1, hv_x1, hf⟩ := hf
    refine r_get (Cn := RX10) (Tt := TX10) (N := 5) (n := 1) rfl uw_X10 (Nat.le_of_ble_eq_true rfl) wd_1_239 ha_x1 hv_x1 dX10_byteAt_6 ?_
    refine r_icmpge (x := v1) (y := x1) (tgt := 30) (by decide) dX10_byteAt_9 (fun hc => ?_) (fun hc => ?_)
    · replace hf := hf.1 hc
      exact r_sub [] rfl (b_X10_byteAt_30 hf)
    · replace hf := hf.2 hc
      refine r_iload_n (j := 1) rfl rfl dX10_byteAt_12 ?_
      refine r_aload_n (j := 0) rfl rfl dX10_byteAt_13 ?_
      obtain ⟨fs_x2, x2, ha_x2, hv_x2, hf⟩ := hf
      refine r_get (Cn := RX10) (Tt := TX10) (N := 5) (n := 0) rfl uw_X10 (Nat.le_of_ble_eq_true rfl) wd_1_238 ha_x2 hv_x2 dX10_byteAt_14 ?_
      obtain ⟨t_x3, N_x3, f_x3, ha_x3, hf⟩ := hf
      refine r_alen ha_x3 dX10_byteAt_17 ?_
      generalize nI N_x3 = x3 at hf ⊢
      refine r_icmpge (x := v1) (y := x3) (tgt := 30) (by decide) dX10_byteAt_18 (fun hc => ?_) (fun hc => ?_)
      · replace hf := hf.1 hc
        exact r_sub [] rfl (b_X10_byteAt_30 hf)
      · replace hf := hf.2 hc
        refine r_aload_n (j := 0) rfl rfl dX10_byteAt_21 ?_
        obtain ⟨fs_x4, x4, ha_x4, hv_x4, hf⟩ := hf
        refine r_get (Cn := RX10) (Tt := TX10) (N := 5) (n := 0) rfl uw_X10 (Nat.le_of_ble_eq_true rfl) wd_1_238 ha_x4 hv_x4 dX10_byteAt_22 ?_
        refine r_iload_n (j := 1) rfl rfl dX10_byteAt_25 ?_
        obtain ⟨N_x5, f_x5, ha_x5, hi_x5, hf⟩ := hf
        refine r_iald ha_x5 hi_x5 dX10_byteAt_26 ?_
        generalize f_x5 (v1 : Int32).toNatClampNeg = x5 at hf ⊢
        refine r_goto (tgt := 31) (by decide) dX10_byteAt_27 ?_
        exact r_sub [] rfl (b_X10_byteAt_31 hf)
theorem m_X10_byteAt {l : Launch} {G : GG} {d : Nat} {v0 : Nat} {v1 : Int32} {σ : Hp} {K : Int32 → Hp → Prop} (hr : rv σ v0 10) (hf : F_X10_byteAt l G d v0 v1 σ K) : C_X10_byteAt l G (d + 1) v0 v1 σ K := ⟨hr, Sp.of (by decide) (Nat.le_of_ble_eq_true rfl) (b_X10_byteAt_0 hf) rfl⟩
def F_X10_isWord_19 (l : Launch) (G : GG) (d : Nat) (σ : Hp) (K : Bool → Hp → Prop) : Prop :=
  K false σ
set_option maxRecDepth 100000 in
set_option maxHeartbeats 4000000 in
theorem b_X10_isWord_19 {l : Launch} {G : GG} {d : Nat} {σ : Hp} {K : Bool → Hp → Prop} (hf : F_X10_isWord_19 l G d  σ K) : Wd l G (d + 1) "CoinsLaid$Tokens" yX10_isWord cX10_isWord 3 (some FieldType.boolean) 19 [] [] σ 0 0 (xM (QZ K)) := by
  unfold F_X10_isWord_19 at hf
  refine r_iconst (v := 0) (by decide) dX10_isWord_19 ?_
  exact r_zreturn (b := false) rfl dX10_isWord_20 rfl ⟨_, rfl, hf⟩
def F_X10_isWord_23 (l : Launch) (G : GG) (d : Nat) (X23 : Nat → Nat → Int32 → Hp → Prop) (v0 : Nat) (v1 : Nat) (v2 : Int32) (σ : Hp) (K : Bool → Hp → Prop) : Prop :=
  fI σ v0 10 4 fun x1 =>
  ((x1 : Int32) ≤ (v2 : Int32) →
    K true σ) ∧
  (¬ (x1 : Int32) ≤ (v2 : Int32) →
    fI σ v0 10 2 fun x2 =>
    C_X10_byteAt l G d v0 (x2 + v2) σ fun r4 σ3 =>
    C_J0_charAt_5068e l G d v1 v2 σ3 fun r6 σ5 =>
    ((r4 : Int32) = (r6 : Int32) →
      X23 v0 v1 (v2 + 1) σ5) ∧
    (¬ (r4 : Int32) = (r6 : Int32) →
      K false σ5))
set_option maxRecDepth 100000 in
set_option maxHeartbeats 4000000 in
theorem b_X10_isWord_23 {l : Launch} {G : GG} {d : Nat} {X23 : Nat → Nat → Int32 → Hp → Prop} {v0 : Nat} {v1 : Nat} {v2 : Int32} {σ : Hp} {K : Bool → Hp → Prop} (hX23 : ∀ v0 v1 v2 σ, X23 v0 v1 v2 σ → Wd l G (d + 1) "CoinsLaid$Tokens" yX10_isWord cX10_isWord 3 (some FieldType.boolean) 23 [(0, aR (some v0)), (1, aR (some v1)), (2, aI v2)] [] σ 0 0 (xM (QZ K))) (hf : F_X10_isWord_23 l G d X23 v0 v1 v2 σ K) : Wd l G (d + 1) "CoinsLaid$Tokens" yX10_isWord cX10_isWord 3 (some FieldType.boolean) 23 [(0, aR (some v0)), (1, aR (some v1)), (2, aI v2)] [] σ 0 0 (xM (QZ K)) := by
  unfold F_X10_isWord_23 at hf
  refine r_iload_n (j := 2) rfl rfl dX10_isWord_23 ?_
  refine r_aload_n (j := 0) rfl rfl dX10_isWord_24 ?_
  obtain ⟨fs_x1, x1, ha_x1, hv_x1, hf⟩ := hf
  refine r_get (Cn := RX10) (Tt := TX10) (N := 5) (n := 4) rfl uw_X10 (Nat.le_of_ble_eq_true rfl) wd_2_5 ha_x1 hv_x1 dX10_isWord_25 ?_
  refine r_icmpge (x := v2) (y := x1) (tgt := 57) (by decide) dX10_isWord_28 (fun hc => ?_) (fun hc => ?_)
  · replace hf := hf.1 hc
    refine r_iconst (v := 1) (by decide) dX10_isWord_57 ?_
    exact r_zreturn (b := true) rfl dX10_isWord_58 rfl ⟨_, rfl, hf⟩
  · replace hf := hf.2 hc
    refine r_aload_n (j := 0) rfl rfl dX10_isWord_31 ?_
    refine r_aload_n (j := 0) rfl rfl dX10_isWord_32 ?_
    obtain ⟨fs_x2, x2, ha_x2, hv_x2, hf⟩ := hf
    refine r_get (Cn := RX10) (Tt := TX10) (N := 5) (n := 2) rfl uw_X10 (Nat.le_of_ble_eq_true rfl) wd_2_1 ha_x2 hv_x2 dX10_isWord_33 ?_
    refine r_iload_n (j := 2) rfl rfl dX10_isWord_36 ?_
    refine r_iadd (x := x2) (y := v2) dX10_isWord_37 ?_
    try unfold C_X10_byteAt at hf
    obtain ⟨⟨fs_r4, ha_r4⟩, hf⟩ := hf
    refine r_invVI (t := 10) (As := [aI (x2 + v2)]) (dz := d) (mz := 0) (sz := 0) rfl wd_2_138 wd_2_140 wd_p_2 cf_X10_byteAt (Nat.le_refl _) (Nat.zero_le _) (Nat.zero_le _) (cat_ok (Nat.le_of_ble_eq_true rfl)) rfl rfl ha_r4 dX10_isWord_38 hf (fun r4 σ3 hk => ?_)
    replace hf := hk
    clear hk
    refine r_aload_n (j := 1) rfl rfl dX10_isWord_41 ?_
    refine r_iload_n (j := 2) rfl rfl dX10_isWord_42 ?_
    try unfold C_J0_charAt_5068e at hf
    obtain ⟨⟨j7, q_j7, ha_j7, hj_j7⟩, hf⟩ := hf
    refine r_invKI (j := j7) (As := [aI v2]) (dz := d) (mz := 0) (sz := 0) rfl wd_2_164 wd_2_165 wd_2_166 cf_J0_charAt_5068e (Nat.le_refl _) (Nat.zero_le _) (Nat.zero_le _) (cat_ok (Nat.le_of_ble_eq_true rfl)) rfl ha_j7 hj_j7 dX10_isWord_43 hf (fun r6 σ5 hk => ?_)
    replace hf := hk
    clear hk
    refine r_icmpeq (x := r4) (y := r6) (tgt := 51) (by decide) dX10_isWord_46 (fun hc => ?_) (fun hc => ?_)
    · replace hf := hf.1 hc
      refine r_iinc (j := 2) (w := (v2 + 1)) (L' := [(2, aI (v2 + 1)), (0, aR (some v0)), (1, aR (some v1))]) rfl (by rfl) rfl (Nat.le_of_ble_eq_true rfl) dX10_isWord_51 ?_
      refine r_goto (tgt := 23) (by decide) dX10_isWord_54 ?_
      exact r_sub [1, 2, 0] rfl (hX23 _ _ _ _ hf)
    · replace hf := hf.2 hc
      refine r_iconst (v := 0) (by decide) dX10_isWord_49 ?_
      exact r_zreturn (b := false) rfl dX10_isWord_50 rfl ⟨_, rfl, hf⟩
def Z_X10_isWord_23 (l : Launch) (G : GG) (d : Nat) (K : Bool → Hp → Prop) : Nat → Nat → Nat → Int32 → Hp → Prop
  | 0 => fun _ _ _ _ => False
  | n + 1 => fun v0 v1 v2 σ => F_X10_isWord_23 l G d (Z_X10_isWord_23 l G d K n) v0 v1 v2 σ K
theorem z_X10_isWord_23 {l : Launch} {G : GG} {d : Nat} {K : Bool → Hp → Prop} : ∀ (n : Nat) v0 v1 v2 σ, Z_X10_isWord_23 l G d K n v0 v1 v2 σ → Wd l G (d + 1) "CoinsLaid$Tokens" yX10_isWord cX10_isWord 3 (some FieldType.boolean) 23 [(0, aR (some v0)), (1, aR (some v1)), (2, aI v2)] [] σ 0 0 (xM (QZ K)) := by
  intro n
  induction n with
  | zero => intro v0 v1 v2 σ hf; exact hf.elim
  | succ n ih => intro v0 v1 v2 σ hf; exact b_X10_isWord_23 ih hf
def F_X10_isWord (l : Launch) (G : GG) (d : Nat) (v0 : Nat) (v1 : Nat) (σ : Hp) (K : Bool → Hp → Prop) : Prop :=
  fI σ v0 10 3 fun x8 =>
  (¬ (x8 : Int32) = (1 : Int32) →
    F_X10_isWord_19 l G d σ K) ∧
  ((x8 : Int32) = (1 : Int32) →
    fI σ v0 10 4 fun x9 =>
    C_J0_length_8abf5 l G d v1 σ fun r11 σ10 =>
    ((x9 : Int32) = (r11 : Int32) →
      ∃ n, Z_X10_isWord_23 l G d K n v0 v1 0 σ10) ∧
    (¬ (x9 : Int32) = (r11 : Int32) →
      F_X10_isWord_19 l G d σ10 K))
set_option maxRecDepth 100000 in
set_option maxHeartbeats 4000000 in
theorem b_X10_isWord_0 {l : Launch} {G : GG} {d : Nat} {v0 : Nat} {v1 : Nat} {σ : Hp} {K : Bool → Hp → Prop} (hf : F_X10_isWord l G d v0 v1 σ K) : Wd l G (d + 1) "CoinsLaid$Tokens" yX10_isWord cX10_isWord 3 (some FieldType.boolean) 0 [(0, aR (some v0)), (1, aR (some v1))] [] σ 0 0 (xM (QZ K)) := by
  unfold F_X10_isWord at hf
  refine r_aload_n (j := 0) rfl rfl dX10_isWord_0 ?_
  obtain ⟨fs_x8, x8, ha_x8, hv_x8, hf⟩ := hf
  refine r_get (Cn := RX10) (Tt := TX10) (N := 5) (n := 3) rfl uw_X10 (Nat.le_of_ble_eq_true rfl) wd_2_3 ha_x8 hv_x8 dX10_isWord_1 ?_
  refine r_iconst (v := 1) (by decide) dX10_isWord_4 ?_
  refine r_icmpne (x := x8) (y := 1) (tgt := 19) (by decide) dX10_isWord_5 (fun hc => ?_) (fun hc => ?_)
  · replace hf := hf.1 hc
    exact r_sub [] rfl (b_X10_isWord_19 hf)
  · replace hf := hf.2 hc
    refine r_aload_n (j := 0) rfl rfl dX10_isWord_8 ?_
    obtain ⟨fs_x9, x9, ha_x9, hv_x9, hf⟩ := hf
    refine r_get (Cn := RX10) (Tt := TX10) (N := 5) (n := 4) rfl uw_X10 (Nat.le_of_ble_eq_true rfl) wd_2_5 ha_x9 hv_x9 dX10_isWord_9 ?_
    refine r_aload_n (j := 1) rfl rfl dX10_isWord_12 ?_
    try unfold C_J0_length_8abf5 at hf
    obtain ⟨⟨j12, q_j12, ha_j12, hj_j12⟩, hf⟩ := hf
    refine r_invKI (j := j12) (As := []) (dz := d) (mz := 0) (sz := 0) rfl wd_2_154 wd_2_155 wd_2_156 cf_J0_length_8abf5 (Nat.le_refl _) (Nat.zero_le _) (Nat.zero_le _) (cat_ok (Nat.le_of_ble_eq_true rfl)) rfl ha_j12 hj_j12 dX10_isWord_13 hf (fun r11 σ10 hk => ?_)
    replace hf := hk
    clear hk
    refine r_icmpeq (x := x9) (y := r11) (tgt := 21) (by decide) dX10_isWord_16 (fun hc => ?_) (fun hc => ?_)
    · replace hf := hf.1 hc
      refine r_iconst (v := 0) (by decide) dX10_isWord_21 ?_
      refine r_istore_n (L' := [(2, aI 0), (0, aR (some v0)), (1, aR (some v1))]) rfl rfl (Nat.le_of_ble_eq_true rfl) dX10_isWord_22 ?_
      obtain ⟨n, hf⟩ := hf
      exact r_sub [1, 2, 0] rfl (z_X10_isWord_23 n _ _ _ _ hf)
    · replace hf := hf.2 hc
      exact r_sub [] rfl (b_X10_isWord_19 hf)
theorem m_X10_isWord {l : Launch} {G : GG} {d : Nat} {v0 : Nat} {v1 : Nat} {σ : Hp} {K : Bool → Hp → Prop} (hr : rv σ v0 10) (hf : F_X10_isWord l G d v0 v1 σ K) : C_X10_isWord l G (d + 1) v0 v1 σ K := ⟨hr, Sp.of (by decide) (Nat.le_of_ble_eq_true rfl) (b_X10_isWord_0 hf) rfl⟩
def F_X10_isSign_25 (l : Launch) (G : GG) (d : Nat) (s0 : Bool) (σ : Hp) (K : Bool → Hp → Prop) : Prop :=
  K s0 σ
set_option maxRecDepth 100000 in
set_option maxHeartbeats 4000000 in
theorem b_X10_isSign_25 {l : Launch} {G : GG} {d : Nat} {s0 : Bool} {σ : Hp} {K : Bool → Hp → Prop} (hf : F_X10_isSign_25 l G d s0 σ K) : Wd l G (d + 1) "CoinsLaid$Tokens" yX10_isSign cX10_isSign 2 (some FieldType.boolean) 25 [] [aI (bi s0)] σ 0 0 (xM (QZ K)) := by
  unfold F_X10_isSign_25 at hf
  exact r_zreturn (b := s0) rfl dX10_isSign_25 rfl ⟨_, rfl, hf⟩
def F_X10_isSign_24 (l : Launch) (G : GG) (d : Nat) (σ : Hp) (K : Bool → Hp → Prop) : Prop :=
  F_X10_isSign_25 l G d false σ K
set_option maxRecDepth 100000 in
set_option maxHeartbeats 4000000 in
theorem b_X10_isSign_24 {l : Launch} {G : GG} {d : Nat} {σ : Hp} {K : Bool → Hp → Prop} (hf : F_X10_isSign_24 l G d  σ K) : Wd l G (d + 1) "CoinsLaid$Tokens" yX10_isSign cX10_isSign 2 (some FieldType.boolean) 24 [] [] σ 0 0 (xM (QZ K)) := by
  unfold F_X10_isSign_24 at hf
  refine r_iconst (v := 0) (by decide) dX10_isSign_24 ?_
  exact r_sub [] rfl (b_X10_isSign_25 hf)
def F_X10_isSign (l : Launch) (G : GG) (d : Nat) (v0 : Nat) (v1 : Int32) (σ : Hp) (K : Bool → Hp → Prop) : Prop :=
  fI σ v0 10 3 fun x1 =>
  (¬ (x1 : Int32) = (3 : Int32) →
    F_X10_isSign_24 l G d σ K) ∧
  ((x1 : Int32) = (3 : Int32) →
    fI σ v0 10 2 fun x2 =>
    C_X10_byteAt l G d v0 x2 σ fun r4 σ3 =>
    (¬ (r4 : Int32) = (v1 : Int32) →
      F_X10_isSign_24 l G d σ3 K) ∧
    ((r4 : Int32) = (v1 : Int32) →
      F_X10_isSign_25 l G d true σ3 K))
set_option maxRecDepth 100000 in
set_option maxHeartbeats 4000000 in
theorem b_X10_isSign_0 {l : Launch} {G : GG} {d : Nat} {v0 : Nat} {v1 : Int32} {σ : Hp} {K : Bool → Hp → Prop} (hf : F_X10_isSign l G d v0 v1 σ K) : Wd l G (d + 1) "CoinsLaid$Tokens" yX10_isSign cX10_isSign 2 (some FieldType.boolean) 0 [(0, aR (some v0)), (1, aI v1)] [] σ 0 0 (xM (QZ K)) := by
  unfold F_X10_isSign at hf
  refine r_aload_n (j := 0) rfl rfl dX10_isSign_0 ?_
  obtain ⟨fs_x1, x1, ha_x1, hv_x1, hf⟩ := hf
  refine r_get (Cn := RX10) (Tt := TX10) (N := 5) (n := 3) rfl uw_X10 (Nat.le_of_ble_eq_true rfl) wd_2_3 ha_x1 hv_x1 dX10_isSign_1 ?_
  refine r_iconst (v := 3) (by decide) dX10_isSign_4 ?_
  refine r_icmpne (x := x1) (y := 3) (tgt := 24) (by decide) dX10_isSign_5 (fun hc => ?_) (fun hc => ?_)
  · replace hf := hf.1 hc
    exact r_sub [] rfl (b_X10_isSign_24 hf)
  · replace hf := hf.2 hc
    refine r_aload_n (j := 0) rfl rfl dX10_isSign_8 ?_
    refine r_aload_n (j := 0) rfl rfl dX10_isSign_9 ?_
    obtain ⟨fs_x2, x2, ha_x2, hv_x2, hf⟩ := hf
    refine r_get (Cn := RX10) (Tt := TX10) (N := 5) (n := 2) rfl uw_X10 (Nat.le_of_ble_eq_true rfl) wd_2_1 ha_x2 hv_x2 dX10_isSign_10 ?_
    try unfold C_X10_byteAt at hf
    obtain ⟨⟨fs_r4, ha_r4⟩, hf⟩ := hf
    refine r_invVI (t := 10) (As := [aI x2]) (dz := d) (mz := 0) (sz := 0) rfl wd_2_138 wd_2_140 wd_p_2 cf_X10_byteAt (Nat.le_refl _) (Nat.zero_le _) (Nat.zero_le _) (cat_ok (Nat.le_of_ble_eq_true rfl)) rfl rfl ha_r4 dX10_isSign_13 hf (fun r4 σ3 hk => ?_)
    replace hf := hk
    clear hk
    refine r_iload_n (j := 1) rfl rfl dX10_isSign_16 ?_
    refine r_icmpne (x := r4) (y := v1) (tgt := 24) (by decide) dX10_isSign_17 (fun hc => ?_) (fun hc => ?_)
    · replace hf := hf.1 hc
      exact r_sub [] rfl (b_X10_isSign_24 hf)
    · replace hf := hf.2 hc
      refine r_iconst (v := 1) (by decide) dX10_isSign_20 ?_
      refine r_goto (tgt := 25) (by decide) dX10_isSign_21 ?_
      exact r_sub [] rfl (b_X10_isSign_25 hf)
theorem m_X10_isSign {l : Launch} {G : GG} {d : Nat} {v0 : Nat} {v1 : Int32} {σ : Hp} {K : Bool → Hp → Prop} (hr : rv σ v0 10) (hf : F_X10_isSign l G d v0 v1 σ K) : C_X10_isSign l G (d + 1) v0 v1 σ K := ⟨hr, Sp.of (by decide) (Nat.le_of_ble_eq_true rfl) (b_X10_isSign_0 hf) rfl⟩
def F_X10_isName_58 (l : Launch) (G : GG) (d : Nat) (s0 : Bool) (σ : Hp) (K : Bool → Hp → Prop) : Prop :=
  K s0 σ
set_option maxRecDepth 100000 in
set_option maxHeartbeats 4000000 in
theorem b_X10_isName_58 {l : Launch} {G : GG} {d : Nat} {s0 : Bool} {σ : Hp} {K : Bool → Hp → Prop} (hf : F_X10_isName_58 l G d s0 σ K) : Wd l G (d + 1) "CoinsLaid$Tokens" yX10_isName cX10_isName 1 (some FieldType.boolean) 58 [] [aI (bi s0)] σ 0 0 (xM (QZ K)) := by
  unfold F_X10_isName_58 at hf
  exact r_zreturn (b := s0) rfl dX10_isName_58 rfl ⟨_, rfl, hf⟩
def F_X10_isName_57 (l : Launch) (G : GG) (d : Nat) (σ : Hp) (K : Bool → Hp → Prop) : Prop :=
  F_X10_isName_58 l G d false σ K
set_option maxRecDepth 100000 in
set_option maxHeartbeats 4000000 in
theorem b_X10_isName_57 {l : Launch} {G : GG} {d : Nat} {σ : Hp} {K : Bool → Hp → Prop} (hf : F_X10_isName_57 l G d  σ K) : Wd l G (d + 1) "CoinsLaid$Tokens" yX10_isName cX10_isName 1 (some FieldType.boolean) 57 [] [] σ 0 0 (xM (QZ K)) := by
  unfold F_X10_isName_57 at hf
  refine r_iconst (v := 0) (by decide) dX10_isName_57 ?_
  exact r_sub [] rfl (b_X10_isName_58 hf)
def F_X10_isName (l : Launch) (G : GG) (d : Nat) (v0 : Nat) (σ : Hp) (K : Bool → Hp → Prop) : Prop :=
  fI σ v0 10 3 fun x1 =>
  (¬ (x1 : Int32) = (1 : Int32) →
    F_X10_isName_57 l G d σ K) ∧
  ((x1 : Int32) = (1 : Int32) →
    C_X10_isWord l G d v0 (gK G 5) σ fun r3 σ2 =>
    (r3 = true →
      F_X10_isName_57 l G d σ2 K) ∧
    (r3 = false →
      C_X10_isWord l G d v0 (gK G 6) σ2 fun r5 σ4 =>
      (r5 = true →
        F_X10_isName_57 l G d σ4 K) ∧
      (r5 = false →
        C_X10_isWord l G d v0 (gK G 7) σ4 fun r7 σ6 =>
        (r7 = true →
          F_X10_isName_57 l G d σ6 K) ∧
        (r7 = false →
          C_X10_isWord l G d v0 (gK G 8) σ6 fun r9 σ8 =>
          (r9 = true →
            F_X10_isName_57 l G d σ8 K) ∧
          (r9 = false →
            C_X10_isWord l G d v0 (gK G 9) σ8 fun r11 σ10 =>
            (r11 = true →
              F_X10_isName_57 l G d σ10 K) ∧
            (r11 = false →
              F_X10_isName_58 l G d true σ10 K))))))
set_option maxRecDepth 100000 in
set_option maxHeartbeats 4000000 in
theorem b_X10_isName_0 {l : Launch} {G : GG} {d : Nat} {v0 : Nat} {σ : Hp} {K : Bool → Hp → Prop} (hf : F_X10_isName l G d v0 σ K) : Wd l G (d + 1) "CoinsLaid$Tokens" yX10_isName cX10_isName 1 (some FieldType.boolean) 0 [(0, aR (some v0))] [] σ 0 0 (xM (QZ K)) := by
  unfold F_X10_isName at hf
  refine r_aload_n (j := 0) rfl rfl dX10_isName_0 ?_
  obtain ⟨fs_x1, x1, ha_x1, hv_x1, hf⟩ := hf
  refine r_get (Cn := RX10) (Tt := TX10) (N := 5) (n := 3) rfl uw_X10 (Nat.le_of_ble_eq_true rfl) wd_2_3 ha_x1 hv_x1 dX10_isName_1 ?_
  refine r_iconst (v := 1) (by decide) dX10_isName_4 ?_
  refine r_icmpne (x := x1) (y := 1) (tgt := 57) (by decide) dX10_isName_5 (fun hc => ?_) (fun hc => ?_)
  · replace hf := hf.1 hc
    exact r_sub [] rfl (b_X10_isName_57 hf)
  · replace hf := hf.2 hc
    refine r_aload_n (j := 0) rfl rfl dX10_isName_8 ?_
    refine r_ldcS (j := 5) rfl dX10_isName_9 ?_
    try unfold C_X10_isWord at hf
    obtain ⟨⟨fs_r3, ha_r3⟩, hf⟩ := hf
    refine r_invVZ (t := 10) (As := [aR (some (gK G 5))]) (dz := d) (mz := 0) (sz := 0) rfl wd_2_239 wd_2_151 wd_2_152 cf_X10_isWord (Nat.le_refl _) (Nat.zero_le _) (Nat.zero_le _) (cat_ok (Nat.le_of_ble_eq_true rfl)) rfl rfl ha_r3 dX10_isName_11 hf (fun r3 σ2 hk => ?_)
    replace hf := hk
    clear hk
    refine r_ifneZ (b := r3) (tgt := 57) (by decide) dX10_isName_14 (fun hc => ?_) (fun hc => ?_)
    · replace hf := hf.1 hc
      exact r_sub [] rfl (b_X10_isName_57 hf)
    · replace hf := hf.2 hc
      refine r_aload_n (j := 0) rfl rfl dX10_isName_17 ?_
      refine r_ldcS (j := 6) rfl dX10_isName_18 ?_
      try unfold C_X10_isWord at hf
      obtain ⟨⟨fs_r5, ha_r5⟩, hf⟩ := hf
      refine r_invVZ (t := 10) (As := [aR (some (gK G 6))]) (dz := d) (mz := 0) (sz := 0) rfl wd_2_239 wd_2_151 wd_2_152 cf_X10_isWord (Nat.le_refl _) (Nat.zero_le _) (Nat.zero_le _) (cat_ok (Nat.le_of_ble_eq_true rfl)) rfl rfl ha_r5 dX10_isName_20 hf (fun r5 σ4 hk => ?_)
      replace hf := hk
      clear hk
      refine r_ifneZ (b := r5) (tgt := 57) (by decide) dX10_isName_23 (fun hc => ?_) (fun hc => ?_)
      · replace hf := hf.1 hc
        exact r_sub [] rfl (b_X10_isName_57 hf)
      · replace hf := hf.2 hc
        refine r_aload_n (j := 0) rfl rfl dX10_isName_26 ?_
        refine r_ldcS (j := 7) rfl dX10_isName_27 ?_
        try unfold C_X10_isWord at hf
        obtain ⟨⟨fs_r7, ha_r7⟩, hf⟩ := hf
        refine r_invVZ (t := 10) (As := [aR (some (gK G 7))]) (dz := d) (mz := 0) (sz := 0) rfl wd_2_239 wd_2_151 wd_2_152 cf_X10_isWord (Nat.le_refl _) (Nat.zero_le _) (Nat.zero_le _) (cat_ok (Nat.le_of_ble_eq_true rfl)) rfl rfl ha_r7 dX10_isName_29 hf (fun r7 σ6 hk => ?_)
        replace hf := hk
        clear hk
        refine r_ifneZ (b := r7) (tgt := 57) (by decide) dX10_isName_32 (fun hc => ?_) (fun hc => ?_)
        · replace hf := hf.1 hc
          exact r_sub [] rfl (b_X10_isName_57 hf)
        · replace hf := hf.2 hc
          refine r_aload_n (j := 0) rfl rfl dX10_isName_35 ?_
          refine r_ldcS (j := 8) rfl dX10_isName_36 ?_
          try unfold C_X10_isWord at hf
          obtain ⟨⟨fs_r9, ha_r9⟩, hf⟩ := hf
          refine r_invVZ (t := 10) (As := [aR (some (gK G 8))]) (dz := d) (mz := 0) (sz := 0) rfl wd_2_239 wd_2_151 wd_2_152 cf_X10_isWord (Nat.le_refl _) (Nat.zero_le _) (Nat.zero_le _) (cat_ok (Nat.le_of_ble_eq_true rfl)) rfl rfl ha_r9 dX10_isName_38 hf (fun r9 σ8 hk => ?_)
          replace hf := hk
          clear hk
          refine r_ifneZ (b := r9) (tgt := 57) (by decide) dX10_isName_41 (fun hc => ?_) (fun hc => ?_)
          · replace hf := hf.1 hc
            exact r_sub [] rfl (b_X10_isName_57 hf)
          · replace hf := hf.2 hc
            refine r_aload_n (j := 0) rfl rfl dX10_isName_44 ?_
            refine r_ldcS (j := 9) rfl dX10_isName_45 ?_
            try unfold C_X10_isWord at hf
            obtain ⟨⟨fs_r11, ha_r11⟩, hf⟩ := hf
            refine r_invVZ (t := 10) (As := [aR (some (gK G 9))]) (dz := d) (mz := 0) (sz := 0) rfl wd_2_239 wd_2_151 wd_2_152 cf_X10_isWord (Nat.le_refl _) (Nat.zero_le _) (Nat.zero_le _) (cat_ok (Nat.le_of_ble_eq_true rfl)) rfl rfl ha_r11 dX10_isName_47 hf (fun r11 σ10 hk => ?_)
            replace hf := hk
            clear hk
            refine r_ifneZ (b := r11) (tgt := 57) (by decide) dX10_isName_50 (fun hc => ?_) (fun hc => ?_)
            · replace hf := hf.1 hc
              exact r_sub [] rfl (b_X10_isName_57 hf)
            · replace hf := hf.2 hc
              refine r_iconst (v := 1) (by decide) dX10_isName_53 ?_
              refine r_goto (tgt := 58) (by decide) dX10_isName_54 ?_
              exact r_sub [] rfl (b_X10_isName_58 hf)
theorem m_X10_isName {l : Launch} {G : GG} {d : Nat} {v0 : Nat} {σ : Hp} {K : Bool → Hp → Prop} (hr : rv σ v0 10) (hf : F_X10_isName l G d v0 σ K) : C_X10_isName l G (d + 1) v0 σ K := ⟨hr, Sp.of (by decide) (Nat.le_of_ble_eq_true rfl) (b_X10_isName_0 hf) rfl⟩
def F_X10_wordCode_47 (l : Launch) (G : GG) (d : Nat) (v1 : Int64) (σ : Hp) (K : Int64 → Hp → Prop) : Prop :=
  K v1 σ
set_option maxRecDepth 100000 in
set_option maxHeartbeats 4000000 in
theorem b_X10_wordCode_47 {l : Launch} {G : GG} {d : Nat} {v1 : Int64} {σ : Hp} {K : Int64 → Hp → Prop} (hf : F_X10_wordCode_47 l G d v1 σ K) : Wd l G (d + 1) "CoinsLaid$Tokens" yX10_wordCode cX10_wordCode 4 (some FieldType.long) 47 [(1, aJ v1)] [] σ 0 0 (xM (QJ K)) := by
  unfold F_X10_wordCode_47 at hf
  refine r_lload_n (j := 0) rfl rfl dX10_wordCode_47 ?_
  exact r_lreturn rfl dX10_wordCode_48 rfl ⟨_, rfl, hf⟩
def F_X10_wordCode_4 (l : Launch) (G : GG) (d : Nat) (X4 : Nat → Int64 → Int32 → Hp → Prop) (v0 : Nat) (v1 : Int64) (v3 : Int32) (σ : Hp) (K : Int64 → Hp → Prop) : Prop :=
  fI σ v0 10 4 fun x1 =>
  ((x1 : Int32) ≤ (v3 : Int32) →
    F_X10_wordCode_47 l G d v1 σ K) ∧
  (¬ (x1 : Int32) ≤ (v3 : Int32) →
    ((8 : Int32) ≤ (v3 : Int32) →
      F_X10_wordCode_47 l G d v1 σ K) ∧
    (¬ (8 : Int32) ≤ (v3 : Int32) →
      fI σ v0 10 2 fun x2 =>
      C_X10_byteAt l G d v0 (x2 + v3) σ fun r4 σ3 =>
      X4 v0 ((v1 * (27 : Int64)) + ((((r4 - 97) + 1) : Int32).toInt64)) (v3 + 1) σ3))
set_option maxRecDepth 100000 in
set_option maxHeartbeats 4000000 in
theorem b_X10_wordCode_4 {l : Launch} {G : GG} {d : Nat} {X4 : Nat → Int64 → Int32 → Hp → Prop} {v0 : Nat} {v1 : Int64} {v3 : Int32} {σ : Hp} {K : Int64 → Hp → Prop} (hX4 : ∀ v0 v1 v3 σ, X4 v0 v1 v3 σ → Wd l G (d + 1) "CoinsLaid$Tokens" yX10_wordCode cX10_wordCode 4 (some FieldType.long) 4 [(0, aR (some v0)), (1, aJ v1), (3, aI v3)] [] σ 0 0 (xM (QJ K))) (hf : F_X10_wordCode_4 l G d X4 v0 v1 v3 σ K) : Wd l G (d + 1) "CoinsLaid$Tokens" yX10_wordCode cX10_wordCode 4 (some FieldType.long) 4 [(0, aR (some v0)), (1, aJ v1), (3, aI v3)] [] σ 0 0 (xM (QJ K)) := by
  unfold F_X10_wordCode_4 at hf
  refine r_iload_n (j := 2) rfl rfl dX10_wordCode_4 ?_
  refine r_aload_n (j := 0) rfl rfl dX10_wordCode_5 ?_
  obtain ⟨fs_x1, x1, ha_x1, hv_x1, hf⟩ := hf
  refine r_get (Cn := RX10) (Tt := TX10) (N := 5) (n := 4) rfl uw_X10 (Nat.le_of_ble_eq_true rfl) wd_2_5 ha_x1 hv_x1 dX10_wordCode_6 ?_
  refine r_icmpge (x := v3) (y := x1) (tgt := 47) (by decide) dX10_wordCode_9 (fun hc => ?_) (fun hc => ?_)
  · replace hf := hf.1 hc
    exact r_sub [1] rfl (b_X10_wordCode_47 hf)
  · replace hf := hf.2 hc
    refine r_iload_n (j := 2) rfl rfl dX10_wordCode_12 ?_
    refine r_bipush (v := 8) (by decide) dX10_wordCode_13 ?_
    refine r_icmpge (x := v3) (y := 8) (tgt := 47) (by decide) dX10_wordCode_15 (fun hc => ?_) (fun hc => ?_)
    · replace hf := hf.1 hc
      exact r_sub [1] rfl (b_X10_wordCode_47 hf)
    · replace hf := hf.2 hc
      refine r_lload_n (j := 1) rfl rfl dX10_wordCode_18 ?_
      refine r_ldc2 wd_3_8 dX10_wordCode_19 ?_
      refine r_lmul (x := v1) (y := (27 : Int64)) dX10_wordCode_22 ?_
      refine r_aload_n (j := 0) rfl rfl dX10_wordCode_23 ?_
      refine r_aload_n (j := 0) rfl rfl dX10_wordCode_24 ?_
      obtain ⟨fs_x2, x2, ha_x2, hv_x2, hf⟩ := hf
      refine r_get (Cn := RX10) (Tt := TX10) (N := 5) (n := 2) rfl uw_X10 (Nat.le_of_ble_eq_true rfl) wd_2_1 ha_x2 hv_x2 dX10_wordCode_25 ?_
      refine r_iload_n (j := 2) rfl rfl dX10_wordCode_28 ?_
      refine r_iadd (x := x2) (y := v3) dX10_wordCode_29 ?_
      try unfold C_X10_byteAt at hf
      obtain ⟨⟨fs_r4, ha_r4⟩, hf⟩ := hf
      refine r_invVI (t := 10) (As := [aI (x2 + v3)]) (dz := d) (mz := 0) (sz := 0) rfl wd_2_138 wd_2_140 wd_p_2 cf_X10_byteAt (Nat.le_refl _) (Nat.zero_le _) (Nat.zero_le _) (cat_ok (Nat.le_of_ble_eq_true rfl)) rfl rfl ha_r4 dX10_wordCode_30 hf (fun r4 σ3 hk => ?_)
      replace hf := hk
      clear hk
      refine r_bipush (v := 97) (by decide) dX10_wordCode_33 ?_
      refine r_isub (x := r4) (y := 97) dX10_wordCode_35 ?_
      refine r_iconst (v := 1) (by decide) dX10_wordCode_36 ?_
      refine r_iadd (x := (r4 - 97)) (y := 1) dX10_wordCode_37 ?_
      refine r_i2l (x := ((r4 - 97) + 1)) dX10_wordCode_38 ?_
      refine r_ladd (x := (v1 * (27 : Int64))) (y := ((((r4 - 97) + 1) : Int32).toInt64)) dX10_wordCode_39 ?_
      refine r_lstore_n (L' := [(1, aJ ((v1 * (27 : Int64)) + ((((r4 - 97) + 1) : Int32).toInt64))), (0, aR (some v0)), (3, aI v3)]) rfl rfl (Nat.le_of_ble_eq_true rfl) dX10_wordCode_40 ?_
      refine r_iinc (j := 2) (w := (v3 + 1)) (L' := [(3, aI (v3 + 1)), (1, aJ ((v1 * (27 : Int64)) + ((((r4 - 97) + 1) : Int32).toInt64))), (0, aR (some v0))]) rfl (by rfl) rfl (Nat.le_of_ble_eq_true rfl) dX10_wordCode_41 ?_
      refine r_goto (tgt := 4) (by decide) dX10_wordCode_44 ?_
      exact r_sub [2, 1, 0] rfl (hX4 _ _ _ _ hf)
def Z_X10_wordCode_4 (l : Launch) (G : GG) (d : Nat) (K : Int64 → Hp → Prop) : Nat → Nat → Int64 → Int32 → Hp → Prop
  | 0 => fun _ _ _ _ => False
  | n + 1 => fun v0 v1 v3 σ => F_X10_wordCode_4 l G d (Z_X10_wordCode_4 l G d K n) v0 v1 v3 σ K
theorem z_X10_wordCode_4 {l : Launch} {G : GG} {d : Nat} {K : Int64 → Hp → Prop} : ∀ (n : Nat) v0 v1 v3 σ, Z_X10_wordCode_4 l G d K n v0 v1 v3 σ → Wd l G (d + 1) "CoinsLaid$Tokens" yX10_wordCode cX10_wordCode 4 (some FieldType.long) 4 [(0, aR (some v0)), (1, aJ v1), (3, aI v3)] [] σ 0 0 (xM (QJ K)) := by
  intro n
  induction n with
  | zero => intro v0 v1 v3 σ hf; exact hf.elim
  | succ n ih => intro v0 v1 v3 σ hf; exact b_X10_wordCode_4 ih hf
def F_X10_wordCode (l : Launch) (G : GG) (d : Nat) (v0 : Nat) (σ : Hp) (K : Int64 → Hp → Prop) : Prop :=
  ∃ n, Z_X10_wordCode_4 l G d K n v0 (0 : Int64) 0 σ
set_option maxRecDepth 100000 in
set_option maxHeartbeats 4000000 in
theorem b_X10_wordCode_0 {l : Launch} {G : GG} {d : Nat} {v0 : Nat} {σ : Hp} {K : Int64 → Hp → Prop} (hf : F_X10_wordCode l G d v0 σ K) : Wd l G (d + 1) "CoinsLaid$Tokens" yX10_wordCode cX10_wordCode 4 (some FieldType.long) 0 [(0, aR (some v0))] [] σ 0 0 (xM (QJ K)) := by
  unfold F_X10_wordCode at hf
  refine r_lconst (v := 0) (by decide) dX10_wordCode_0 ?_
  refine r_lstore_n (L' := [(1, aJ (0 : Int64)), (0, aR (some v0))]) rfl rfl (Nat.le_of_ble_eq_true rfl) dX10_wordCode_1 ?_
  refine r_iconst (v := 0) (by decide) dX10_wordCode_2 ?_
  refine r_istore_n (L' := [(3, aI 0), (1, aJ (0 : Int64)), (0, aR (some v0))]) rfl rfl (Nat.le_of_ble_eq_true rfl) dX10_wordCode_3 ?_
  obtain ⟨n, hf⟩ := hf
  exact r_sub [2, 1, 0] rfl (z_X10_wordCode_4 n _ _ _ _ hf)
theorem m_X10_wordCode {l : Launch} {G : GG} {d : Nat} {v0 : Nat} {σ : Hp} {K : Int64 → Hp → Prop} (hr : rv σ v0 10) (hf : F_X10_wordCode l G d v0 σ K) : C_X10_wordCode l G (d + 1) v0 σ K := ⟨hr, Sp.of (by decide) (Nat.le_of_ble_eq_true rfl) (b_X10_wordCode_0 hf) rfl⟩
def F_X10_wholeValue_42 (l : Launch) (G : GG) (d : Nat) (v1 : Int32) (σ : Hp) (K : Int32 → Hp → Prop) : Prop :=
  K v1 σ
set_option maxRecDepth 100000 in
set_option maxHeartbeats 4000000 in
theorem b_X10_wholeValue_42 {l : Launch} {G : GG} {d : Nat} {v1 : Int32} {σ : Hp} {K : Int32 → Hp → Prop} (hf : F_X10_wholeValue_42 l G d v1 σ K) : Wd l G (d + 1) "CoinsLaid$Tokens" yX10_wholeValue cX10_wholeValue 3 (some FieldType.int) 42 [(1, aI v1)] [] σ 0 0 (xM (QI K)) := by
  unfold F_X10_wholeValue_42 at hf
  refine r_iload_n (j := 0) rfl rfl dX10_wholeValue_42 ?_
  exact r_ireturn rfl dX10_wholeValue_43 rfl ⟨_, rfl, hf⟩
def F_X10_wholeValue_4 (l : Launch) (G : GG) (d : Nat) (X4 : Nat → Int32 → Int32 → Hp → Prop) (v0 : Nat) (v1 : Int32) (v2 : Int32) (σ : Hp) (K : Int32 → Hp → Prop) : Prop :=
  fI σ v0 10 4 fun x1 =>
  ((x1 : Int32) ≤ (v2 : Int32) →
    F_X10_wholeValue_42 l G d v1 σ K) ∧
  (¬ (x1 : Int32) ≤ (v2 : Int32) →
    ((3 : Int32) ≤ (v2 : Int32) →
      F_X10_wholeValue_42 l G d v1 σ K) ∧
    (¬ (3 : Int32) ≤ (v2 : Int32) →
      fI σ v0 10 2 fun x2 =>
      C_X10_byteAt l G d v0 (x2 + v2) σ fun r4 σ3 =>
      X4 v0 ((v1 * 10) + (r4 - 48)) (v2 + 1) σ3))
set_option maxRecDepth 100000 in
set_option maxHeartbeats 4000000 in
theorem b_X10_wholeValue_4 {l : Launch} {G : GG} {d : Nat} {X4 : Nat → Int32 → Int32 → Hp → Prop} {v0 : Nat} {v1 : Int32} {v2 : Int32} {σ : Hp} {K : Int32 → Hp → Prop} (hX4 : ∀ v0 v1 v2 σ, X4 v0 v1 v2 σ → Wd l G (d + 1) "CoinsLaid$Tokens" yX10_wholeValue cX10_wholeValue 3 (some FieldType.int) 4 [(0, aR (some v0)), (1, aI v1), (2, aI v2)] [] σ 0 0 (xM (QI K))) (hf : F_X10_wholeValue_4 l G d X4 v0 v1 v2 σ K) : Wd l G (d + 1) "CoinsLaid$Tokens" yX10_wholeValue cX10_wholeValue 3 (some FieldType.int) 4 [(0, aR (some v0)), (1, aI v1), (2, aI v2)] [] σ 0 0 (xM (QI K)) := by
  unfold F_X10_wholeValue_4 at hf
  refine r_iload_n (j := 2) rfl rfl dX10_wholeValue_4 ?_
  refine r_aload_n (j := 0) rfl rfl dX10_wholeValue_5 ?_
  obtain ⟨fs_x1, x1, ha_x1, hv_x1, hf⟩ := hf
  refine r_get (Cn := RX10) (Tt := TX10) (N := 5) (n := 4) rfl uw_X10 (Nat.le_of_ble_eq_true rfl) wd_2_5 ha_x1 hv_x1 dX10_wholeValue_6 ?_
  refine r_icmpge (x := v2) (y := x1) (tgt := 42) (by decide) dX10_wholeValue_9 (fun hc => ?_) (fun hc => ?_)
  · replace hf := hf.1 hc
    exact r_sub [1] rfl (b_X10_wholeValue_42 hf)
  · replace hf := hf.2 hc
    refine r_iload_n (j := 2) rfl rfl dX10_wholeValue_12 ?_
    refine r_iconst (v := 3) (by decide) dX10_wholeValue_13 ?_
    refine r_icmpge (x := v2) (y := 3) (tgt := 42) (by decide) dX10_wholeValue_14 (fun hc => ?_) (fun hc => ?_)
    · replace hf := hf.1 hc
      exact r_sub [1] rfl (b_X10_wholeValue_42 hf)
    · replace hf := hf.2 hc
      refine r_iload_n (j := 1) rfl rfl dX10_wholeValue_17 ?_
      refine r_bipush (v := 10) (by decide) dX10_wholeValue_18 ?_
      refine r_imul (x := v1) (y := 10) dX10_wholeValue_20 ?_
      refine r_aload_n (j := 0) rfl rfl dX10_wholeValue_21 ?_
      refine r_aload_n (j := 0) rfl rfl dX10_wholeValue_22 ?_
      obtain ⟨fs_x2, x2, ha_x2, hv_x2, hf⟩ := hf
      refine r_get (Cn := RX10) (Tt := TX10) (N := 5) (n := 2) rfl uw_X10 (Nat.le_of_ble_eq_true rfl) wd_2_1 ha_x2 hv_x2 dX10_wholeValue_23 ?_
      refine r_iload_n (j := 2) rfl rfl dX10_wholeValue_26 ?_
      refine r_iadd (x := x2) (y := v2) dX10_wholeValue_27 ?_
      try unfold C_X10_byteAt at hf
      obtain ⟨⟨fs_r4, ha_r4⟩, hf⟩ := hf
      refine r_invVI (t := 10) (As := [aI (x2 + v2)]) (dz := d) (mz := 0) (sz := 0) rfl wd_2_138 wd_2_140 wd_p_2 cf_X10_byteAt (Nat.le_refl _) (Nat.zero_le _) (Nat.zero_le _) (cat_ok (Nat.le_of_ble_eq_true rfl)) rfl rfl ha_r4 dX10_wholeValue_28 hf (fun r4 σ3 hk => ?_)
      replace hf := hk
      clear hk
      refine r_bipush (v := 48) (by decide) dX10_wholeValue_31 ?_
      refine r_isub (x := r4) (y := 48) dX10_wholeValue_33 ?_
      refine r_iadd (x := (v1 * 10)) (y := (r4 - 48)) dX10_wholeValue_34 ?_
      refine r_istore_n (L' := [(1, aI ((v1 * 10) + (r4 - 48))), (0, aR (some v0)), (2, aI v2)]) rfl rfl (Nat.le_of_ble_eq_true rfl) dX10_wholeValue_35 ?_
      refine r_iinc (j := 2) (w := (v2 + 1)) (L' := [(2, aI (v2 + 1)), (1, aI ((v1 * 10) + (r4 - 48))), (0, aR (some v0))]) rfl (by rfl) rfl (Nat.le_of_ble_eq_true rfl) dX10_wholeValue_36 ?_
      refine r_goto (tgt := 4) (by decide) dX10_wholeValue_39 ?_
      exact r_sub [2, 1, 0] rfl (hX4 _ _ _ _ hf)
def Z_X10_wholeValue_4 (l : Launch) (G : GG) (d : Nat) (K : Int32 → Hp → Prop) : Nat → Nat → Int32 → Int32 → Hp → Prop
  | 0 => fun _ _ _ _ => False
  | n + 1 => fun v0 v1 v2 σ => F_X10_wholeValue_4 l G d (Z_X10_wholeValue_4 l G d K n) v0 v1 v2 σ K
theorem z_X10_wholeValue_4 {l : Launch} {G : GG} {d : Nat} {K : Int32 → Hp → Prop} : ∀ (n : Nat) v0 v1 v2 σ, Z_X10_wholeValue_4 l G d K n v0 v1 v2 σ → Wd l G (d + 1) "CoinsLaid$Tokens" yX10_wholeValue cX10_wholeValue 3 (some FieldType.int) 4 [(0, aR (some v0)), (1, aI v1), (2, aI v2)] [] σ 0 0 (xM (QI K)) := by
  intro n
  induction n with
  | zero => intro v0 v1 v2 σ hf; exact hf.elim
  | succ n ih => intro v0 v1 v2 σ hf; exact b_X10_wholeValue_4 ih hf
def F_X10_wholeValue (l : Launch) (G : GG) (d : Nat) (v0 : Nat) (σ : Hp) (K : Int32 → Hp → Prop) : Prop :=
  ∃ n, Z_X10_wholeValue_4 l G d K n v0 0 0 σ
set_option maxRecDepth 100000 in
set_option maxHeartbeats 4000000 in
theorem b_X10_wholeValue_0 {l : Launch} {G : GG} {d : Nat} {v0 : Nat} {σ : Hp} {K : Int32 → Hp → Prop} (hf : F_X10_wholeValue l G d v0 σ K) : Wd l G (d + 1) "CoinsLaid$Tokens" yX10_wholeValue cX10_wholeValue 3 (some FieldType.int) 0 [(0, aR (some v0))] [] σ 0 0 (xM (QI K)) := by
  unfold F_X10_wholeValue at hf
  refine r_iconst (v := 0) (by decide) dX10_wholeValue_0 ?_
  refine r_istore_n (L' := [(1, aI 0), (0, aR (some v0))]) rfl rfl (Nat.le_of_ble_eq_true rfl) dX10_wholeValue_1 ?_
  refine r_iconst (v := 0) (by decide) dX10_wholeValue_2 ?_
  refine r_istore_n (L' := [(2, aI 0), (1, aI 0), (0, aR (some v0))]) rfl rfl (Nat.le_of_ble_eq_true rfl) dX10_wholeValue_3 ?_
  obtain ⟨n, hf⟩ := hf
  exact r_sub [2, 1, 0] rfl (z_X10_wholeValue_4 n _ _ _ _ hf)
theorem m_X10_wholeValue {l : Launch} {G : GG} {d : Nat} {v0 : Nat} {σ : Hp} {K : Int32 → Hp → Prop} (hr : rv σ v0 10) (hf : F_X10_wholeValue l G d v0 σ K) : C_X10_wholeValue l G (d + 1) v0 σ K := ⟨hr, Sp.of (by decide) (Nat.le_of_ble_eq_true rfl) (b_X10_wholeValue_0 hf) rfl⟩
