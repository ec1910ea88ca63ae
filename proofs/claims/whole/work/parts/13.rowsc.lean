/-! 13.rowsc: written by wip/whole/gen.py -/
def F_X4_init_53 (l : Launch) (G : GG) (d : Nat) (X53 : Nat → Int32 → Hp → Nat → Nat → Prop) (v0 : Nat) (v1 : Int32) (σ : Hp) (bc bs : Nat) (K : Hp → Prop) : Prop :=
  fN σ v0 4 3 fun x1 =>
  aL σ x1 fun x2 =>
  ((x2 : Int32) ≤ (v1 : Int32) →
    K σ) ∧
  (¬ (x2 : Int32) ≤ (v1 : Int32) →
    fN σ v0 4 3 fun x3 =>
    nO σ 1 [aR none, aI 0, aI 0, aI 0] 4 bc bs fun q4 σ5 =>
    ∃ mz8 sz9, mz8 ≤ (bc - 1) ∧ sz9 ≤ (bs - 4) ∧ C_X1_init l G d mz8 sz9 q4 σ5 fun σ6 =>
    sN 4 1 σ6 x3 v1 q4 fun σ10 =>
    X53 v0 (v1 + 1) σ10 ((bc - 1) - mz8) ((bs - 4) - sz9))
set_option maxRecDepth 100000 in
set_option maxHeartbeats 4000000 in
theorem b_X4_init_53 {l : Launch} {G : GG} {d : Nat} {X53 : Nat → Int32 → Hp → Nat → Nat → Prop} {v0 : Nat} {v1 : Int32} {σ : Hp} {bc bs : Nat} {K : Hp → Prop} (hX53 : ∀ v0 v1 σ bc bs, X53 v0 v1 σ bc bs → Wd l G (d + 1) "CoinsLaid$Past" yX4_init cX4_init 2 none 53 [(0, aR (some v0)), (1, aI v1)] [] σ bc bs (xM (QV K))) (hf : F_X4_init_53 l G d X53 v0 v1 σ bc bs K) : Wd l G (d + 1) "CoinsLaid$Past" yX4_init cX4_init 2 none 53 [(0, aR (some v0)), (1, aI v1)] [] σ bc bs (xM (QV K)) := by
  unfold F_X4_init_53 at hf
  refine r_iload_n (j := 1) rfl rfl dX4_init_53 ?_
  refine r_aload_n (j := 0) rfl rfl dX4_init_54 ?_
  obtain ⟨fs_x1, x1, ha_x1, hv_x1, hf⟩ := hf
  refine r_get (Cn := RX4) (Tt := TX4) (N := 5) (n := 3) rfl uw_X4 (Nat.le_of_ble_eq_true rfl) wd_1_123 ha_x1 hv_x1 dX4_init_55 ?_
  obtain ⟨t_x2, N_x2, f_x2, ha_x2, hf⟩ := hf
  refine r_alen ha_x2 dX4_init_58 ?_
  generalize nI N_x2 = x2 at hf ⊢
  refine r_icmpge (x := v1) (y := x2) (tgt := 81) (by decide) dX4_init_59 (fun hc => ?_) (fun hc => ?_)
  · replace hf := hf.1 hc
    exact r_return rfl dX4_init_81 rfl ⟨rfl, hf⟩
  · replace hf := hf.2 hc
    refine r_aload_n (j := 0) rfl rfl dX4_init_62 ?_
    obtain ⟨fs_x3, x3, ha_x3, hv_x3, hf⟩ := hf
    refine r_get (Cn := RX4) (Tt := TX4) (N := 5) (n := 3) rfl uw_X4 (Nat.le_of_ble_eq_true rfl) wd_1_123 ha_x3 hv_x3 dX4_init_63 ?_
    refine r_iload_n (j := 1) rfl rfl dX4_init_66 ?_
    obtain ⟨hbc, hbs, hf⟩ := hf
    refine r_new (t := 1) (Cn := RX1) (Tt := TX1) (N := 4) (fs := [aR none, aI 0, aI 0, aI 0]) (ty0 := tyX1) rfl uw_X1 tyX1_ok wd_1_116 wd_1_84 wd_1_3 rfl dfv_X1 hbc hbs dX4_init_67 (fun q4 hq_q4 => ?_)
    replace hf := hf q4 hq_q4
    generalize hset σ q4 (.inl (1, [aR none, aI 0, aI 0, aI 0])) = σ5 at hf ⊢
    refine r_dup rfl dX4_init_70 ?_
    obtain ⟨mz8, sz9, hbc, hbs, hf⟩ := hf
    try unfold C_X1_init at hf
    refine r_invINU (host := "CoinsLaid") (As := []) (dz := d) (mz := mz8) (sz := sz9) rfl (List.mem_of_getElem? (i := 1) rfl) wd_1_86 rfl rfl cf_X1_init (Nat.le_refl _) hbc hbs (cat_ok (Nat.le_of_ble_eq_true rfl)) dX4_init_71 hf (fun σ6 hk => ?_)
    replace hf := hk
    clear hk
    obtain ⟨N_x11, f_x11, ha_x11, ⟨vs_x11, hx_x11⟩, hi_x11, hf⟩ := hf
    generalize hσ10 : hset σ6 x3 (rA 4 N_x11 (up_ f_x11 (v1 : Int32).toNatClampNeg (some q4))) = σ10 at hf
    refine r_aast4 (f := f_x11) (x := q4) ha_x11 hx_x11 hi_x11 dX4_init_74 ?_
    refine Eq.mpr (congrArg (fun z => Wd _ _ _ _ _ _ _ _ _ _ _ z _ _ _) hσ10) ?_
    refine r_iinc (j := 1) (w := (v1 + 1)) (L' := [(1, aI (v1 + 1)), (0, aR (some v0))]) rfl (by rfl) rfl (Nat.le_of_ble_eq_true rfl) dX4_init_75 ?_
    refine r_goto (tgt := 53) (by decide) dX4_init_78 ?_
    exact r_sub [1, 0] rfl (hX53 _ _ _ _ _ hf)
def Z_X4_init_53 (l : Launch) (G : GG) (d : Nat) (K : Hp → Prop) : Nat → Nat → Int32 → Hp → Nat → Nat → Prop
  | 0 => fun _ _ _ _ _ => False
  | n + 1 => fun v0 v1 σ bc bs => F_X4_init_53 l G d (Z_X4_init_53 l G d K n) v0 v1 σ bc bs K
theorem z_X4_init_53 {l : Launch} {G : GG} {d : Nat} {K : Hp → Prop} : ∀ (n : Nat) v0 v1 σ bc bs, Z_X4_init_53 l G d K n v0 v1 σ bc bs → Wd l G (d + 1) "CoinsLaid$Past" yX4_init cX4_init 2 none 53 [(0, aR (some v0)), (1, aI v1)] [] σ bc bs (xM (QV K)) := by
  intro n
  induction n with
  | zero => intro v0 v1 σ bc bs hf; exact hf.elim
  | succ n ih => intro v0 v1 σ bc bs hf; exact b_X4_init_53 ih hf
def F_X4_init_23 (l : Launch) (G : GG) (d : Nat) (X23 : Nat → Int32 → Hp → Nat → Nat → Prop) (v0 : Nat) (v1 : Int32) (σ : Hp) (bc bs : Nat) (K : Hp → Prop) : Prop :=
  fN σ v0 4 0 fun x12 =>
  aL σ x12 fun x13 =>
  ((x13 : Int32) ≤ (v1 : Int32) →
    ∃ n, Z_X4_init_53 l G d K n v0 0 σ bc bs) ∧
  (¬ (x13 : Int32) ≤ (v1 : Int32) →
    fN σ v0 4 0 fun x14 =>
    nO σ 1 [aR none, aI 0, aI 0, aI 0] 4 bc bs fun q15 σ16 =>
    ∃ mz19 sz20, mz19 ≤ (bc - 1) ∧ sz20 ≤ (bs - 4) ∧ C_X1_init l G d mz19 sz20 q15 σ16 fun σ17 =>
    sN 4 1 σ17 x14 v1 q15 fun σ21 =>
    X23 v0 (v1 + 1) σ21 ((bc - 1) - mz19) ((bs - 4) - sz20))
set_option maxRecDepth 100000 in
set_option maxHeartbeats 4000000 in
theorem b_X4_init_23 {l : Launch} {G : GG} {d : Nat} {X23 : Nat → Int32 → Hp → Nat → Nat → Prop} {v0 : Nat} {v1 : Int32} {σ : Hp} {bc bs : Nat} {K : Hp → Prop} (hX23 : ∀ v0 v1 σ bc bs, X23 v0 v1 σ bc bs → Wd l G (d + 1) "CoinsLaid$Past" yX4_init cX4_init 2 none 23 [(0, aR (some v0)), (1, aI v1)] [] σ bc bs (xM (QV K))) (hf : F_X4_init_23 l G d X23 v0 v1 σ bc bs K) : Wd l G (d + 1) "CoinsLaid$Past" yX4_init cX4_init 2 none 23 [(0, aR (some v0)), (1, aI v1)] [] σ bc bs (xM (QV K)) := by
  unfold F_X4_init_23 at hf
  refine r_iload_n (j := 1) rfl rfl dX4_init_23 ?_
  refine r_aload_n (j := 0) rfl rfl dX4_init_24 ?_
  obtain ⟨fs_x12, x12, ha_x12, hv_x12, hf⟩ := hf
  refine r_get (Cn := RX4) (Tt := TX4) (N := 5) (n := 0) rfl uw_X4 (Nat.le_of_ble_eq_true rfl) wd_1_119 ha_x12 hv_x12 dX4_init_25 ?_
  obtain ⟨t_x13, N_x13, f_x13, ha_x13, hf⟩ := hf
  refine r_alen ha_x13 dX4_init_28 ?_
  generalize nI N_x13 = x13 at hf ⊢
  refine r_icmpge (x := v1) (y := x13) (tgt := 51) (by decide) dX4_init_29 (fun hc => ?_) (fun hc => ?_)
  · replace hf := hf.1 hc
    refine r_iconst (v := 0) (by decide) dX4_init_51 ?_
    refine r_istore_n (L' := [(1, aI 0), (0, aR (some v0))]) rfl rfl (Nat.le_of_ble_eq_true rfl) dX4_init_52 ?_
    obtain ⟨n, hf⟩ := hf
    exact r_sub [1, 0] rfl (z_X4_init_53 n _ _ _ _ _ hf)
  · replace hf := hf.2 hc
    refine r_aload_n (j := 0) rfl rfl dX4_init_32 ?_
    obtain ⟨fs_x14, x14, ha_x14, hv_x14, hf⟩ := hf
    refine r_get (Cn := RX4) (Tt := TX4) (N := 5) (n := 0) rfl uw_X4 (Nat.le_of_ble_eq_true rfl) wd_1_119 ha_x14 hv_x14 dX4_init_33 ?_
    refine r_iload_n (j := 1) rfl rfl dX4_init_36 ?_
    obtain ⟨hbc, hbs, hf⟩ := hf
    refine r_new (t := 1) (Cn := RX1) (Tt := TX1) (N := 4) (fs := [aR none, aI 0, aI 0, aI 0]) (ty0 := tyX1) rfl uw_X1 tyX1_ok wd_1_116 wd_1_84 wd_1_3 rfl dfv_X1 hbc hbs dX4_init_37 (fun q15 hq_q15 => ?_)
    replace hf := hf q15 hq_q15
    generalize hset σ q15 (.inl (1, [aR none, aI 0, aI 0, aI 0])) = σ16 at hf ⊢
    refine r_dup rfl dX4_init_40 ?_
    obtain ⟨mz19, sz20, hbc, hbs, hf⟩ := hf
    try unfold C_X1_init at hf
    refine r_invINU (host := "CoinsLaid") (As := []) (dz := d) (mz := mz19) (sz := sz20) rfl (List.mem_of_getElem? (i := 1) rfl) wd_1_86 rfl rfl cf_X1_init (Nat.le_refl _) hbc hbs (cat_ok (Nat.le_of_ble_eq_true rfl)) dX4_init_41 hf (fun σ17 hk => ?_)
    replace hf := hk
    clear hk
    obtain ⟨N_x22, f_x22, ha_x22, ⟨vs_x22, hx_x22⟩, hi_x22, hf⟩ := hf
    generalize hσ21 : hset σ17 x14 (rA 4 N_x22 (up_ f_x22 (v1 : Int32).toNatClampNeg (some q15))) = σ21 at hf
    refine r_aast4 (f := f_x22) (x := q15) ha_x22 hx_x22 hi_x22 dX4_init_44 ?_
    refine Eq.mpr (congrArg (fun z => Wd _ _ _ _ _ _ _ _ _ _ _ z _ _ _) hσ21) ?_
    refine r_iinc (j := 1) (w := (v1 + 1)) (L' := [(1, aI (v1 + 1)), (0, aR (some v0))]) rfl (by rfl) rfl (Nat.le_of_ble_eq_true rfl) dX4_init_45 ?_
    refine r_goto (tgt := 23) (by decide) dX4_init_48 ?_
    exact r_sub [1, 0] rfl (hX23 _ _ _ _ _ hf)
def Z_X4_init_23 (l : Launch) (G : GG) (d : Nat) (K : Hp → Prop) : Nat → Nat → Int32 → Hp → Nat → Nat → Prop
  | 0 => fun _ _ _ _ _ => False
  | n + 1 => fun v0 v1 σ bc bs => F_X4_init_23 l G d (Z_X4_init_23 l G d K n) v0 v1 σ bc bs K
theorem z_X4_init_23 {l : Launch} {G : GG} {d : Nat} {K : Hp → Prop} : ∀ (n : Nat) v0 v1 σ bc bs, Z_X4_init_23 l G d K n v0 v1 σ bc bs → Wd l G (d + 1) "CoinsLaid$Past" yX4_init cX4_init 2 none 23 [(0, aR (some v0)), (1, aI v1)] [] σ bc bs (xM (QV K)) := by
  intro n
  induction n with
  | zero => intro v0 v1 σ bc bs hf; exact hf.elim
  | succ n ih => intro v0 v1 σ bc bs hf; exact b_X4_init_23 ih hf
def F_X4_init (l : Launch) (G : GG) (d : Nat) (v0 : Nat) (σ : Hp) (bc bs : Nat) (K : Hp → Prop) : Prop :=
  nA_ 4 σ 16 bc bs fun N25 q23 σ24 =>
  pF σ24 v0 4 0 (aR (some q23)) fun σ26 =>
  nA_ 4 σ26 3 (bc - 1) (bs - N25) fun N30 q28 σ29 =>
  pF σ29 v0 4 3 (aR (some q28)) fun σ31 =>
  ∃ n, Z_X4_init_23 l G d K n v0 0 σ31 ((bc - 1) - 1) ((bs - N25) - N30)
set_option maxRecDepth 100000 in
set_option maxHeartbeats 4000000 in
theorem b_X4_init_0 {l : Launch} {G : GG} {d : Nat} {v0 : Nat} {σ : Hp} {bc bs : Nat} {K : Hp → Prop} (hf : F_X4_init l G d v0 σ bc bs K) : Wd l G (d + 1) "CoinsLaid$Past" yX4_init cX4_init 2 none 0 [(0, aR (some v0))] [] σ bc bs (xM (QV K)) := by
  unfold F_X4_init at hf
  refine r_aload_n (j := 0) rfl rfl dX4_init_0 ?_
  refine r_objInit wd_1_115 wd_1_37 wd_1_38 (Nat.le_add_left 1 d) (cat_ok (Nat.le_of_ble_eq_true rfl)) dX4_init_1 ?_
  refine r_aload_n (j := 0) rfl rfl dX4_init_4 ?_
  refine r_bipush (v := 16) (by decide) dX4_init_5 ?_
  obtain ⟨N25, hn_N25, hl_N25, hbc, hbs, hf⟩ := hf
  refine r_newA4 wd_1_116 hn_N25 hl_N25 hbc hbs dX4_init_7 (fun q23 hq_q23 => ?_)
  replace hf := hf q23 hq_q23
  refine Eq.mpr (congrArg (fun z => Wd _ _ _ _ _ _ _ _ _ _ _ z _ _ _) (rfl : _ = hset σ q23 (rA 4 N25 fun _ => none))) ?_
  generalize hset σ q23 (rA 4 N25 fun _ => none) = σ24 at hf ⊢
  obtain ⟨fs_x27, ha_x27, hf⟩ := hf
  generalize hσ26 : hset σ24 v0 (.inl (4, fs_x27.set 0 (aR (some q23)))) = σ26 at hf
  refine r_putF (Cn := RX4) (Tt := TX4) (N := 5) (n := 0) (v := aR (some q23)) rfl uw_X4 (Nat.le_of_ble_eq_true rfl) wd_1_119 ha_x27 (ty0 := tyX4) tyX4_ok nmX4 rfl rfl rfl (fo_A _ (some q23)) dX4_init_10 ?_
  rw [hσ26]
  refine r_aload_n (j := 0) rfl rfl dX4_init_13 ?_
  refine r_iconst (v := 3) (by decide) dX4_init_14 ?_
  obtain ⟨N30, hn_N30, hl_N30, hbc, hbs, hf⟩ := hf
  refine r_newA4 wd_1_116 hn_N30 hl_N30 hbc hbs dX4_init_15 (fun q28 hq_q28 => ?_)
  replace hf := hf q28 hq_q28
  refine Eq.mpr (congrArg (fun z => Wd _ _ _ _ _ _ _ _ _ _ _ z _ _ _) (rfl : _ = hset σ26 q28 (rA 4 N30 fun _ => none))) ?_
  generalize hset σ26 q28 (rA 4 N30 fun _ => none) = σ29 at hf ⊢
  obtain ⟨fs_x32, ha_x32, hf⟩ := hf
  generalize hσ31 : hset σ29 v0 (.inl (4, fs_x32.set 3 (aR (some q28)))) = σ31 at hf
  refine r_putF (Cn := RX4) (Tt := TX4) (N := 5) (n := 3) (v := aR (some q28)) rfl uw_X4 (Nat.le_of_ble_eq_true rfl) wd_1_123 ha_x32 (ty0 := tyX4) tyX4_ok nmX4 rfl rfl rfl (fo_A _ (some q28)) dX4_init_18 ?_
  rw [hσ31]
  refine r_iconst (v := 0) (by decide) dX4_init_21 ?_
  refine r_istore_n (L' := [(1, aI 0), (0, aR (some v0))]) rfl rfl (Nat.le_of_ble_eq_true rfl) dX4_init_22 ?_
  obtain ⟨n, hf⟩ := hf
  exact r_sub [1, 0] rfl (z_X4_init_23 n _ _ _ _ _ hf)
theorem m_X4_init {l : Launch} {G : GG} {d : Nat} {mc ms : Nat} {v0 : Nat} {σ : Hp} {K : Hp → Prop} (hf : F_X4_init l G d v0 σ mc ms K) : C_X4_init l G (d + 1) mc ms v0 σ K := Sp.of (by decide) (Nat.le_of_ble_eq_true rfl) (b_X4_init_0 hf) rfl
def F_X4_clear (l : Launch) (G : GG) (d : Nat) (v0 : Nat) (σ : Hp) (K : Hp → Prop) : Prop :=
  pF σ v0 4 2 (aI 0) fun σ1 =>
  pF σ1 v0 4 4 (aI 0) fun σ3 =>
  K σ3
set_option maxRecDepth 100000 in
set_option maxHeartbeats 4000000 in
theorem b_X4_clear_0 {l : Launch} {G : GG} {d : Nat} {v0 : Nat} {σ : Hp} {K : Hp → Prop} (hf : F_X4_clear l G d v0 σ K) : Wd l G (d + 1) "CoinsLaid$Past" yX4_clear cX4_clear 1 none 0 [(0, aR (some v0))] [] σ 0 0 (xM (QV K)) := by
  unfold F_X4_clear at hf
  refine r_aload_n (j := 0) rfl rfl dX4_clear_0 ?_
  refine r_iconst (v := 0) (by decide) dX4_clear_1 ?_
  obtain ⟨fs_x2, ha_x2, hf⟩ := hf
  generalize hσ1 : hset σ v0 (.inl (4, fs_x2.set 2 (aI 0))) = σ1 at hf
  refine r_put (Cn := RX4) (Tt := TX4) (N := 5) (n := 2) (v := aI 0) rfl uw_X4 (Nat.le_of_ble_eq_true rfl) wd_1_121 ha_x2 (ty0 := tyX4) tyX4_ok nmX4 rfl (fo_I 0) dX4_clear_2 ?_
  rw [hσ1]
  refine r_aload_n (j := 0) rfl rfl dX4_clear_5 ?_
  refine r_iconst (v := 0) (by decide) dX4_clear_6 ?_
  obtain ⟨fs_x4, ha_x4, hf⟩ := hf
  generalize hσ3 : hset σ1 v0 (.inl (4, fs_x4.set 4 (aI 0))) = σ3 at hf
  refine r_put (Cn := RX4) (Tt := TX4) (N := 5) (n := 4) (v := aI 0) rfl uw_X4 (Nat.le_of_ble_eq_true rfl) wd_1_124 ha_x4 (ty0 := tyX4) tyX4_ok nmX4 rfl (fo_I 0) dX4_clear_7 ?_
  rw [hσ3]
  exact r_return rfl dX4_clear_10 rfl ⟨rfl, hf⟩
theorem m_X4_clear {l : Launch} {G : GG} {d : Nat} {v0 : Nat} {σ : Hp} {K : Hp → Prop} (hr : rv σ v0 4) (hf : F_X4_clear l G d v0 σ K) : C_X4_clear l G (d + 1) v0 σ K := ⟨hr, Sp.of (by decide) (Nat.le_of_ble_eq_true rfl) (b_X4_clear_0 hf) rfl⟩
def F_X4_keep_78 (l : Launch) (G : GG) (d : Nat) (σ : Hp) (K : Hp → Prop) : Prop :=
  K σ
set_option maxRecDepth 100000 in
set_option maxHeartbeats 4000000 in
theorem b_X4_keep_78 {l : Launch} {G : GG} {d : Nat} {σ : Hp} {K : Hp → Prop} (hf : F_X4_keep_78 l G d  σ K) : Wd l G (d + 1) "CoinsLaid$Past" yX4_keep cX4_keep 2 none 78 [] [] σ 0 0 (xM (QV K)) := by
  unfold F_X4_keep_78 at hf
  exact r_return rfl dX4_keep_78 rfl ⟨rfl, hf⟩
def F_X4_keep_57 (l : Launch) (G : GG) (d : Nat) (v0 : Nat) (s0 : Nat) (s1 : Int32) (σ : Hp) (K : Hp → Prop) : Prop :=
  pF σ s0 4 1 (aI s1) fun σ1 =>
  fI σ1 v0 4 2 fun x3 =>
  fN σ1 v0 4 0 fun x4 =>
  aL σ1 x4 fun x5 =>
  pF σ1 v0 4 2 (aI (if (x5 : Int32) < (x3 + 1) then x5 else (x3 + 1))) fun σ6 =>
  F_X4_keep_78 l G d σ6 K
set_option maxRecDepth 100000 in
set_option maxHeartbeats 4000000 in
theorem b_X4_keep_57 {l : Launch} {G : GG} {d : Nat} {v0 : Nat} {s0 : Nat} {s1 : Int32} {σ : Hp} {K : Hp → Prop} (hf : F_X4_keep_57 l G d v0 s0 s1 σ K) : Wd l G (d + 1) "CoinsLaid$Past" yX4_keep cX4_keep 2 none 57 [(0, aR (some v0))] [aI s1, aR (some s0)] σ 0 0 (xM (QV K)) := by
  unfold F_X4_keep_57 at hf
  obtain ⟨fs_x2, ha_x2, hf⟩ := hf
  generalize hσ1 : hset σ s0 (.inl (4, fs_x2.set 1 (aI s1))) = σ1 at hf
  refine r_put (Cn := RX4) (Tt := TX4) (N := 5) (n := 1) (v := aI s1) rfl uw_X4 (Nat.le_of_ble_eq_true rfl) wd_1_120 ha_x2 (ty0 := tyX4) tyX4_ok nmX4 rfl (fo_I s1) dX4_keep_57 ?_
  rw [hσ1]
  refine r_aload_n (j := 0) rfl rfl dX4_keep_60 ?_
  refine r_aload_n (j := 0) rfl rfl dX4_keep_61 ?_
  obtain ⟨fs_x3, x3, ha_x3, hv_x3, hf⟩ := hf
  refine r_get (Cn := RX4) (Tt := TX4) (N := 5) (n := 2) rfl uw_X4 (Nat.le_of_ble_eq_true rfl) wd_1_121 ha_x3 hv_x3 dX4_keep_62 ?_
  refine r_iconst (v := 1) (by decide) dX4_keep_65 ?_
  refine r_iadd (x := x3) (y := 1) dX4_keep_66 ?_
  refine r_aload_n (j := 0) rfl rfl dX4_keep_67 ?_
  obtain ⟨fs_x4, x4, ha_x4, hv_x4, hf⟩ := hf
  refine r_get (Cn := RX4) (Tt := TX4) (N := 5) (n := 0) rfl uw_X4 (Nat.le_of_ble_eq_true rfl) wd_1_119 ha_x4 hv_x4 dX4_keep_68 ?_
  obtain ⟨t_x5, N_x5, f_x5, ha_x5, hf⟩ := hf
  refine r_alen ha_x5 dX4_keep_71 ?_
  generalize nI N_x5 = x5 at hf ⊢
  refine r_mmin (x := (x3 + 1)) (y := x5) wd_6_40 wd_3_136 wd_1_21 wd_3_137 (Nat.le_add_left 1 d) (cat_ok (Nat.le_of_ble_eq_true rfl)) dX4_keep_72 ?_
  obtain ⟨fs_x7, ha_x7, hf⟩ := hf
  generalize hσ6 : hset σ1 v0 (.inl (4, fs_x7.set 2 (aI (if (x5 : Int32) < (x3 + 1) then x5 else (x3 + 1))))) = σ6 at hf
  refine r_put (Cn := RX4) (Tt := TX4) (N := 5) (n := 2) (v := aI (if (x5 : Int32) < (x3 + 1) then x5 else (x3 + 1))) rfl uw_X4 (Nat.le_of_ble_eq_true rfl) wd_1_121 ha_x7 (ty0 := tyX4) tyX4_ok nmX4 rfl (fo_I (if (x5 : Int32) < (x3 + 1) then x5 else (x3 + 1))) dX4_keep_75 ?_
  rw [hσ6]
  exact r_sub [] rfl (b_X4_keep_78 hf)
def F_X4_keep (l : Launch) (G : GG) (d : Nat) (v0 : Nat) (v1 : Nat) (σ : Hp) (K : Hp → Prop) : Prop :=
  fI σ v0 4 1 fun x8 =>
  ((x8 : Int32) < 0 →
    F_X4_keep_78 l G d σ K) ∧
  (¬ (x8 : Int32) < 0 →
    fI σ v0 4 1 fun x9 =>
    fN σ v0 4 0 fun x10 =>
    aL σ x10 fun x11 =>
    ((x11 : Int32) ≤ (x9 : Int32) →
      F_X4_keep_78 l G d σ K) ∧
    (¬ (x11 : Int32) ≤ (x9 : Int32) →
      fN σ v0 4 0 fun x12 =>
      fI σ v0 4 1 fun x13 =>
      gN 4 σ x12 x13 fun x14 =>
      C_X1_copy l G d x14 v1 σ fun σ15 =>
      fI σ15 v0 4 1 fun x17 =>
      fN σ15 v0 4 0 fun x18 =>
      aL σ15 x18 fun x19 =>
      ((x19 : Int32) ≤ ((x17 + 1) : Int32) →
        F_X4_keep_57 l G d v0 v0 0 σ15 K) ∧
      (¬ (x19 : Int32) ≤ ((x17 + 1) : Int32) →
        fI σ15 v0 4 1 fun x20 =>
        F_X4_keep_57 l G d v0 v0 (x20 + 1) σ15 K)))
set_option maxRecDepth 100000 in
set_option maxHeartbeats 4000000 in
theorem b_X4_keep_0 {l : Launch} {G : GG} {d : Nat} {v0 : Nat} {v1 : Nat} {σ : Hp} {K : Hp → Prop} (hf : F_X4_keep l G d v0 v1 σ K) : Wd l G (d + 1) "CoinsLaid$Past" yX4_keep cX4_keep 2 none 0 [(0, aR (some v0)), (1, aR (some v1))] [] σ 0 0 (xM (QV K)) := by
  unfold F_X4_keep at hf
  refine r_aload_n (j := 0) rfl rfl dX4_keep_0 ?_
  obtain ⟨fs_x8, x8, ha_x8, hv_x8, hf⟩ := hf
  refine r_get (Cn := RX4) (Tt := TX4) (N := 5) (n := 1) rfl uw_X4 (Nat.le_of_ble_eq_true rfl) wd_1_120 ha_x8 hv_x8 dX4_keep_1 ?_
  refine r_iflt (x := x8) (tgt := 78) (by decide) dX4_keep_4 (fun hc => ?_) (fun hc => ?_)
  · replace hf := hf.1 hc
    exact r_sub [] rfl (b_X4_keep_78 hf)
  · replace hf := hf.2 hc
    refine r_aload_n (j := 0) rfl rfl dX4_keep_7 ?_
    obtain ⟨fs_x9, x9, ha_x9, hv_x9, hf⟩ := hf
    refine r_get (Cn := RX4) (Tt := TX4) (N := 5) (n := 1) rfl uw_X4 (Nat.le_of_ble_eq_true rfl) wd_1_120 ha_x9 hv_x9 dX4_keep_8 ?_
    refine r_aload_n (j := 0) rfl rfl dX4_keep_11 ?_
    obtain ⟨fs_x10, x10, ha_x10, hv_x10, hf⟩ := hf
    refine r_get (Cn := RX4) (Tt := TX4) (N := 5) (n := 0) rfl uw_X4 (Nat.le_of_ble_eq_true rfl) wd_1_119 ha_x10 hv_x10 dX4_keep_12 ?_
    obtain ⟨t_x11, N_x11, f_x11, ha_x11, hf⟩ := hf
    refine r_alen ha_x11 dX4_keep_15 ?_
    generalize nI N_x11 = x11 at hf ⊢
    refine r_icmpge (x := x9) (y := x11) (tgt := 78) (by decide) dX4_keep_16 (fun hc => ?_) (fun hc => ?_)
    · replace hf := hf.1 hc
      exact r_sub [] rfl (b_X4_keep_78 hf)
    · replace hf := hf.2 hc
      refine r_aload_n (j := 0) rfl rfl dX4_keep_19 ?_
      obtain ⟨fs_x12, x12, ha_x12, hv_x12, hf⟩ := hf
      refine r_get (Cn := RX4) (Tt := TX4) (N := 5) (n := 0) rfl uw_X4 (Nat.le_of_ble_eq_true rfl) wd_1_119 ha_x12 hv_x12 dX4_keep_20 ?_
      refine r_aload_n (j := 0) rfl rfl dX4_keep_23 ?_
      obtain ⟨fs_x13, x13, ha_x13, hv_x13, hf⟩ := hf
      refine r_get (Cn := RX4) (Tt := TX4) (N := 5) (n := 1) rfl uw_X4 (Nat.le_of_ble_eq_true rfl) wd_1_120 ha_x13 hv_x13 dX4_keep_24 ?_
      obtain ⟨N_x14, f_x14, x14, ha_x14, hi_x14, hv_x14, hf⟩ := hf
      refine r_aald4 ha_x14 hi_x14 dX4_keep_27 ?_
      rw [hv_x14]
      refine r_aload_n (j := 1) rfl rfl dX4_keep_28 ?_
      try unfold C_X1_copy at hf
      obtain ⟨⟨fs_r16, ha_r16⟩, hf⟩ := hf
      refine r_invVU (t := 1) (As := [aR (some v1)]) (dz := d) (mz := 0) (sz := 0) rfl wd_6_39 wd_4_103 wd_4_104 cf_X1_copy (Nat.le_refl _) (Nat.zero_le _) (Nat.zero_le _) (cat_ok (Nat.le_of_ble_eq_true rfl)) rfl rfl ha_r16 dX4_keep_29 hf (fun σ15 hk => ?_)
      replace hf := hk
      clear hk
      refine r_aload_n (j := 0) rfl rfl dX4_keep_32 ?_
      refine r_aload_n (j := 0) rfl rfl dX4_keep_33 ?_
      obtain ⟨fs_x17, x17, ha_x17, hv_x17, hf⟩ := hf
      refine r_get (Cn := RX4) (Tt := TX4) (N := 5) (n := 1) rfl uw_X4 (Nat.le_of_ble_eq_true rfl) wd_1_120 ha_x17 hv_x17 dX4_keep_34 ?_
      refine r_iconst (v := 1) (by decide) dX4_keep_37 ?_
      refine r_iadd (x := x17) (y := 1) dX4_keep_38 ?_
      refine r_aload_n (j := 0) rfl rfl dX4_keep_39 ?_
      obtain ⟨fs_x18, x18, ha_x18, hv_x18, hf⟩ := hf
      refine r_get (Cn := RX4) (Tt := TX4) (N := 5) (n := 0) rfl uw_X4 (Nat.le_of_ble_eq_true rfl) wd_1_119 ha_x18 hv_x18 dX4_keep_40 ?_
      obtain ⟨t_x19, N_x19, f_x19, ha_x19, hf⟩ := hf
      refine r_alen ha_x19 dX4_keep_43 ?_
      generalize nI N_x19 = x19 at hf ⊢
      refine r_icmpge (x := (x17 + 1)) (y := x19) (tgt := 56) (by decide) dX4_keep_44 (fun hc => ?_) (fun hc => ?_)
      · replace hf := hf.1 hc
        refine r_iconst (v := 0) (by decide) dX4_keep_56 ?_
        exact r_sub [0] rfl (b_X4_keep_57 hf)
      · replace hf := hf.2 hc
        refine r_aload_n (j := 0) rfl rfl dX4_keep_47 ?_
        obtain ⟨fs_x20, x20, ha_x20, hv_x20, hf⟩ := hf
        refine r_get (Cn := RX4) (Tt := TX4) (N := 5) (n := 1) rfl uw_X4 (Nat.le_of_ble_eq_true rfl) wd_1_120 ha_x20 hv_x20 dX4_keep_48 ?_
        refine r_iconst (v := 1) (by decide) dX4_keep_51 ?_
        refine r_iadd (x := x20) (y := 1) dX4_keep_52 ?_
        refine r_goto (tgt := 57) (by decide) dX4_keep_53 ?_
        exact r_sub [0] rfl (b_X4_keep_57 hf)
theorem m_X4_keep {l : Launch} {G : GG} {d : Nat} {v0 : Nat} {v1 : Nat} {σ : Hp} {K : Hp → Prop} (hr : rv σ v0 4) (hf : F_X4_keep l G d v0 v1 σ K) : C_X4_keep l G (d + 1) v0 v1 σ K := ⟨hr, Sp.of (by decide) (Nat.le_of_ble_eq_true rfl) (b_X4_keep_0 hf) rfl⟩
def F_X4_undoTo_44 (l : Launch) (G : GG) (d : Nat) (σ : Hp) (K : Bool → Hp → Prop) : Prop :=
  K false σ
set_option maxRecDepth 100000 in
set_option maxHeartbeats 4000000 in
theorem b_X4_undoTo_44 {l : Launch} {G : GG} {d : Nat} {σ : Hp} {K : Bool → Hp → Prop} (hf : F_X4_undoTo_44 l G d  σ K) : Wd l G (d + 1) "CoinsLaid$Past" yX4_undoTo cX4_undoTo 3 (some FieldType.boolean) 44 [] [] σ 0 0 (xM (QZ K)) := by
  unfold F_X4_undoTo_44 at hf
  refine r_iconst (v := 0) (by decide) dX4_undoTo_44 ?_
  exact r_zreturn (b := false) rfl dX4_undoTo_45 rfl ⟨_, rfl, hf⟩
def F_X4_undoTo_23 (l : Launch) (G : GG) (d : Nat) (v0 : Nat) (v1 : Nat) (s0 : Int32) (σ : Hp) (K : Bool → Hp → Prop) : Prop :=
  fI σ v0 4 2 fun x1 =>
  ((x1 : Int32) ≤ 0 →
    F_X4_undoTo_44 l G d σ K) ∧
  (¬ (x1 : Int32) ≤ 0 →
    ((s0 : Int32) < 0 →
      F_X4_undoTo_44 l G d σ K) ∧
    (¬ (s0 : Int32) < 0 →
      fN σ v0 4 0 fun x2 =>
      aL σ x2 fun x3 =>
      ((s0 : Int32) < (x3 : Int32) →
        fN σ v0 4 0 fun x4 =>
        gN 4 σ x4 s0 fun x5 =>
        C_X1_copy l G d v1 x5 σ fun σ6 =>
        pF σ6 v0 4 1 (aI s0) fun σ8 =>
        fI σ8 v0 4 2 fun x10 =>
        pF σ8 v0 4 2 (aI (x10 - 1)) fun σ11 =>
        K true σ11) ∧
      (¬ (s0 : Int32) < (x3 : Int32) →
        F_X4_undoTo_44 l G d σ K)))
set_option maxRecDepth 100000 in
set_option maxHeartbeats 4000000 in
theorem b_X4_undoTo_23 {l : Launch} {G : GG} {d : Nat} {v0 : Nat} {v1 : Nat} {s0 : Int32} {σ : Hp} {K : Bool → Hp → Prop} (hf : F_X4_undoTo_23 l G d v0 v1 s0 σ K) : Wd l G (d + 1) "CoinsLaid$Past" yX4_undoTo cX4_undoTo 3 (some FieldType.boolean) 23 [(0, aR (some v0)), (1, aR (some v1))] [aI s0] σ 0 0 (xM (QZ K)) := by
  unfold F_X4_undoTo_23 at hf
  refine r_istore_n (L' := [(2, aI s0), (0, aR (some v0)), (1, aR (some v1))]) rfl rfl (Nat.le_of_ble_eq_true rfl) dX4_undoTo_23 ?_
  refine r_aload_n (j := 1) rfl rfl dX4_undoTo_24 ?_
  obtain ⟨fs_x1, x1, ha_x1, hv_x1, hf⟩ := hf
  refine r_get (Cn := RX4) (Tt := TX4) (N := 5) (n := 2) rfl uw_X4 (Nat.le_of_ble_eq_true rfl) wd_1_121 ha_x1 hv_x1 dX4_undoTo_25 ?_
  refine r_ifle (x := x1) (tgt := 44) (by decide) dX4_undoTo_28 (fun hc => ?_) (fun hc => ?_)
  · replace hf := hf.1 hc
    exact r_sub [] rfl (b_X4_undoTo_44 hf)
  · replace hf := hf.2 hc
    refine r_iload_n (j := 0) rfl rfl dX4_undoTo_31 ?_
    refine r_iflt (x := s0) (tgt := 44) (by decide) dX4_undoTo_32 (fun hc => ?_) (fun hc => ?_)
    · replace hf := hf.1 hc
      exact r_sub [] rfl (b_X4_undoTo_44 hf)
    · replace hf := hf.2 hc
      refine r_iload_n (j := 0) rfl rfl dX4_undoTo_35 ?_
      refine r_aload_n (j := 1) rfl rfl dX4_undoTo_36 ?_
      obtain ⟨fs_x2, x2, ha_x2, hv_x2, hf⟩ := hf
      refine r_get (Cn := RX4) (Tt := TX4) (N := 5) (n := 0) rfl uw_X4 (Nat.le_of_ble_eq_true rfl) wd_1_119 ha_x2 hv_x2 dX4_undoTo_37 ?_
      obtain ⟨t_x3, N_x3, f_x3, ha_x3, hf⟩ := hf
      refine r_alen ha_x3 dX4_undoTo_40 ?_
      generalize nI N_x3 = x3 at hf ⊢
      refine r_icmplt (x := s0) (y := x3) (tgt := 46) (by decide) dX4_undoTo_41 (fun hc => ?_) (fun hc => ?_)
      · replace hf := hf.1 hc
        refine r_aload_n (j := 2) rfl rfl dX4_undoTo_46 ?_
        refine r_aload_n (j := 1) rfl rfl dX4_undoTo_47 ?_
        obtain ⟨fs_x4, x4, ha_x4, hv_x4, hf⟩ := hf
        refine r_get (Cn := RX4) (Tt := TX4) (N := 5) (n := 0) rfl uw_X4 (Nat.le_of_ble_eq_true rfl) wd_1_119 ha_x4 hv_x4 dX4_undoTo_48 ?_
        refine r_iload_n (j := 0) rfl rfl dX4_undoTo_51 ?_
        obtain ⟨N_x5, f_x5, x5, ha_x5, hi_x5, hv_x5, hf⟩ := hf
        refine r_aald4 ha_x5 hi_x5 dX4_undoTo_52 ?_
        rw [hv_x5]
        try unfold C_X1_copy at hf
        obtain ⟨⟨fs_r7, ha_r7⟩, hf⟩ := hf
        refine r_invVU (t := 1) (As := [aR (some x5)]) (dz := d) (mz := 0) (sz := 0) rfl wd_6_39 wd_4_103 wd_4_104 cf_X1_copy (Nat.le_refl _) (Nat.zero_le _) (Nat.zero_le _) (cat_ok (Nat.le_of_ble_eq_true rfl)) rfl rfl ha_r7 dX4_undoTo_53 hf (fun σ6 hk => ?_)
        replace hf := hk
        clear hk
        refine r_aload_n (j := 1) rfl rfl dX4_undoTo_56 ?_
        refine r_iload_n (j := 0) rfl rfl dX4_undoTo_57 ?_
        obtain ⟨fs_x9, ha_x9, hf⟩ := hf
        generalize hσ8 : hset σ6 v0 (.inl (4, fs_x9.set 1 (aI s0))) = σ8 at hf
        refine r_put (Cn := RX4) (Tt := TX4) (N := 5) (n := 1) (v := aI s0) rfl uw_X4 (Nat.le_of_ble_eq_true rfl) wd_1_120 ha_x9 (ty0 := tyX4) tyX4_ok nmX4 rfl (fo_I s0) dX4_undoTo_58 ?_
        rw [hσ8]
        refine r_aload_n (j := 1) rfl rfl dX4_undoTo_61 ?_
        refine r_dup rfl dX4_undoTo_62 ?_
        obtain ⟨fs_x10, x10, ha_x10, hv_x10, hf⟩ := hf
        refine r_get (Cn := RX4) (Tt := TX4) (N := 5) (n := 2) rfl uw_X4 (Nat.le_of_ble_eq_true rfl) wd_1_121 ha_x10 hv_x10 dX4_undoTo_63 ?_
        refine r_iconst (v := 1) (by decide) dX4_undoTo_66 ?_
        refine r_isub (x := x10) (y := 1) dX4_undoTo_67 ?_
        obtain ⟨fs_x12, ha_x12, hf⟩ := hf
        generalize hσ11 : hset σ8 v0 (.inl (4, fs_x12.set 2 (aI (x10 - 1)))) = σ11 at hf
        refine r_put (Cn := RX4) (Tt := TX4) (N := 5) (n := 2) (v := aI (x10 - 1)) rfl uw_X4 (Nat.le_of_ble_eq_true rfl) wd_1_121 ha_x12 (ty0 := tyX4) tyX4_ok nmX4 rfl (fo_I (x10 - 1)) dX4_undoTo_68 ?_
        rw [hσ11]
        refine r_iconst (v := 1) (by decide) dX4_undoTo_71 ?_
        exact r_zreturn (b := true) rfl dX4_undoTo_72 rfl ⟨_, rfl, hf⟩
      · replace hf := hf.2 hc
        exact r_sub [] rfl (b_X4_undoTo_44 hf)
def F_X4_undoTo (l : Launch) (G : GG) (d : Nat) (v0 : Nat) (v1 : Nat) (σ : Hp) (K : Bool → Hp → Prop) : Prop :=
  fI σ v0 4 1 fun x13 =>
  ((x13 : Int32) ≤ 0 →
    fN σ v0 4 0 fun x14 =>
    aL σ x14 fun x15 =>
    F_X4_undoTo_23 l G d v0 v1 (x15 - 1) σ K) ∧
  (¬ (x13 : Int32) ≤ 0 →
    fI σ v0 4 1 fun x16 =>
    F_X4_undoTo_23 l G d v0 v1 (x16 - 1) σ K)
set_option maxRecDepth 100000 in
set_option maxHeartbeats 4000000 in
theorem b_X4_undoTo_0 {l : Launch} {G : GG} {d : Nat} {v0 : Nat} {v1 : Nat} {σ : Hp} {K : Bool → Hp → Prop} (hf : F_X4_undoTo l G d v0 v1 σ K) : Wd l G (d + 1) "CoinsLaid$Past" yX4_undoTo cX4_undoTo 3 (some FieldType.boolean) 0 [(0, aR (some v0)), (1, aR (some v1))] [] σ 0 0 (xM (QZ K)) := by
  unfold F_X4_undoTo at hf
  refine r_aload_n (j := 0) rfl rfl dX4_undoTo_0 ?_
  obtain ⟨fs_x13, x13, ha_x13, hv_x13, hf⟩ := hf
  refine r_get (Cn := RX4) (Tt := TX4) (N := 5) (n := 1) rfl uw_X4 (Nat.le_of_ble_eq_true rfl) wd_1_120 ha_x13 hv_x13 dX4_undoTo_1 ?_
  refine r_ifle (x := x13) (tgt := 16) (by decide) dX4_undoTo_4 (fun hc => ?_) (fun hc => ?_)
  · replace hf := hf.1 hc
    refine r_aload_n (j := 0) rfl rfl dX4_undoTo_16 ?_
    obtain ⟨fs_x14, x14, ha_x14, hv_x14, hf⟩ := hf
    refine r_get (Cn := RX4) (Tt := TX4) (N := 5) (n := 0) rfl uw_X4 (Nat.le_of_ble_eq_true rfl) wd_1_119 ha_x14 hv_x14 dX4_undoTo_17 ?_
    obtain ⟨t_x15, N_x15, f_x15, ha_x15, hf⟩ := hf
    refine r_alen ha_x15 dX4_undoTo_20 ?_
    generalize nI N_x15 = x15 at hf ⊢
    refine r_iconst (v := 1) (by decide) dX4_undoTo_21 ?_
    refine r_isub (x := x15) (y := 1) dX4_undoTo_22 ?_
    exact r_sub [0, 1] rfl (b_X4_undoTo_23 hf)
  · replace hf := hf.2 hc
    refine r_aload_n (j := 0) rfl rfl dX4_undoTo_7 ?_
    obtain ⟨fs_x16, x16, ha_x16, hv_x16, hf⟩ := hf
    refine r_get (Cn := RX4) (Tt := TX4) (N := 5) (n := 1) rfl uw_X4 (Nat.le_of_ble_eq_true rfl) wd_1_120 ha_x16 hv_x16 dX4_undoTo_8 ?_
    refine r_iconst (v := 1) (by decide) dX4_undoTo_11 ?_
    refine r_isub (x := x16) (y := 1) dX4_undoTo_12 ?_
    refine r_goto (tgt := 23) (by decide) dX4_undoTo_13 ?_
    exact r_sub [0, 1] rfl (b_X4_undoTo_23 hf)
theorem m_X4_undoTo {l : Launch} {G : GG} {d : Nat} {v0 : Nat} {v1 : Nat} {σ : Hp} {K : Bool → Hp → Prop} (hr : rv σ v0 4) (hf : F_X4_undoTo l G d v0 v1 σ K) : C_X4_undoTo l G (d + 1) v0 v1 σ K := ⟨hr, Sp.of (by decide) (Nat.le_of_ble_eq_true rfl) (b_X4_undoTo_0 hf) rfl⟩
def F_X4_addImage_19 (l : Launch) (G : GG) (d : Nat) (σ : Hp) (K : Int32 → Hp → Prop) : Prop :=
  K (-1) σ
set_option maxRecDepth 100000 in
set_option maxHeartbeats 4000000 in
theorem b_X4_addImage_19 {l : Launch} {G : GG} {d : Nat} {σ : Hp} {K : Int32 → Hp → Prop} (hf : F_X4_addImage_19 l G d  σ K) : Wd l G (d + 1) "CoinsLaid$Past" yX4_addImage cX4_addImage 2 (some FieldType.int) 19 [] [] σ 0 0 (xM (QI K)) := by
  unfold F_X4_addImage_19 at hf
  refine r_iconst (v := (-1)) (by decide) dX4_addImage_19 ?_
  exact r_ireturn rfl dX4_addImage_20 rfl ⟨_, rfl, hf⟩
def F_X4_addImage (l : Launch) (G : GG) (d : Nat) (v0 : Nat) (v1 : Nat) (σ : Hp) (K : Int32 → Hp → Prop) : Prop :=
  fI σ v0 4 4 fun x1 =>
  ((x1 : Int32) < 0 →
    F_X4_addImage_19 l G d σ K) ∧
  (¬ (x1 : Int32) < 0 →
    fI σ v0 4 4 fun x2 =>
    fN σ v0 4 3 fun x3 =>
    aL σ x3 fun x4 =>
    ((x2 : Int32) < (x4 : Int32) →
      fN σ v0 4 3 fun x5 =>
      fI σ v0 4 4 fun x6 =>
      gN 4 σ x5 x6 fun x7 =>
      C_X1_copy l G d x7 v1 σ fun σ8 =>
      fI σ8 v0 4 4 fun x10 =>
      pF σ8 v0 4 4 (aI (x10 + 1)) fun σ11 =>
      fI σ11 v0 4 4 fun x13 =>
      K (x13 - 1) σ11) ∧
    (¬ (x2 : Int32) < (x4 : Int32) →
      F_X4_addImage_19 l G d σ K))
set_option maxRecDepth 100000 in
set_option maxHeartbeats 4000000 in
theorem b_X4_addImage_0 {l : Launch} {G : GG} {d : Nat} {v0 : Nat} {v1 : Nat} {σ : Hp} {K : Int32 → Hp → Prop} (hf : F_X4_addImage l G d v0 v1 σ K) : Wd l G (d + 1) "CoinsLaid$Past" yX4_addImage cX4_addImage 2 (some FieldType.int) 0 [(0, aR (some v0)), (1, aR (some v1))] [] σ 0 0 (xM (QI K)) := by
  unfold F_X4_addImage at hf
  refine r_aload_n (j := 0) rfl rfl dX4_addImage_0 ?_
  obtain ⟨fs_x1, x1, ha_x1, hv_x1, hf⟩ := hf
  refine r_get (Cn := RX4) (Tt := TX4) (N := 5) (n := 4) rfl uw_X4 (Nat.le_of_ble_eq_true rfl) wd_1_124 ha_x1 hv_x1 dX4_addImage_1 ?_
  refine r_iflt (x := x1) (tgt := 19) (by decide) dX4_addImage_4 (fun hc => ?_) (fun hc => ?_)
  · replace hf := hf.1 hc
    exact r_sub [] rfl (b_X4_addImage_19 hf)
  · replace hf := hf.2 hc
    refine r_aload_n (j := 0) rfl rfl dX4_addImage_7 ?_
    obtain ⟨fs_x2, x2, ha_x2, hv_x2, hf⟩ := hf
    refine r_get (Cn := RX4) (Tt := TX4) (N := 5) (n := 4) rfl uw_X4 (Nat.le_of_ble_eq_true rfl) wd_1_124 ha_x2 hv_x2 dX4_addImage_8 ?_
    refine r_aload_n (j := 0) rfl rfl dX4_addImage_11 ?_
    obtain ⟨fs_x3, x3, ha_x3, hv_x3, hf⟩ := hf
    refine r_get (Cn := RX4) (Tt := TX4) (N := 5) (n := 3) rfl uw_X4 (Nat.le_of_ble_eq_true rfl) wd_1_123 ha_x3 hv_x3 dX4_addImage_12 ?_
    obtain ⟨t_x4, N_x4, f_x4, ha_x4, hf⟩ := hf
    refine r_alen ha_x4 dX4_addImage_15 ?_
    generalize nI N_x4 = x4 at hf ⊢
    refine r_icmplt (x := x2) (y := x4) (tgt := 21) (by decide) dX4_addImage_16 (fun hc => ?_) (fun hc => ?_)
    · replace hf := hf.1 hc
      refine r_aload_n (j := 0) rfl rfl dX4_addImage_21 ?_
      obtain ⟨fs_x5, x5, ha_x5, hv_x5, hf⟩ := hf
      refine r_get (Cn := RX4) (Tt := TX4) (N := 5) (n := 3) rfl uw_X4 (Nat.le_of_ble_eq_true rfl) wd_1_123 ha_x5 hv_x5 dX4_addImage_22 ?_
      refine r_aload_n (j := 0) rfl rfl dX4_addImage_25 ?_
      obtain ⟨fs_x6, x6, ha_x6, hv_x6, hf⟩ := hf
      refine r_get (Cn := RX4) (Tt := TX4) (N := 5) (n := 4) rfl uw_X4 (Nat.le_of_ble_eq_true rfl) wd_1_124 ha_x6 hv_x6 dX4_addImage_26 ?_
      obtain ⟨N_x7, f_x7, x7, ha_x7, hi_x7, hv_x7, hf⟩ := hf
      refine r_aald4 ha_x7 hi_x7 dX4_addImage_29 ?_
      rw [hv_x7]
      refine r_aload_n (j := 1) rfl rfl dX4_addImage_30 ?_
      try unfold C_X1_copy at hf
      obtain ⟨⟨fs_r9, ha_r9⟩, hf⟩ := hf
      refine r_invVU (t := 1) (As := [aR (some v1)]) (dz := d) (mz := 0) (sz := 0) rfl wd_6_39 wd_4_103 wd_4_104 cf_X1_copy (Nat.le_refl _) (Nat.zero_le _) (Nat.zero_le _) (cat_ok (Nat.le_of_ble_eq_true rfl)) rfl rfl ha_r9 dX4_addImage_31 hf (fun σ8 hk => ?_)
      replace hf := hk
      clear hk
      refine r_aload_n (j := 0) rfl rfl dX4_addImage_34 ?_
      refine r_dup rfl dX4_addImage_35 ?_
      obtain ⟨fs_x10, x10, ha_x10, hv_x10, hf⟩ := hf
      refine r_get (Cn := RX4) (Tt := TX4) (N := 5) (n := 4) rfl uw_X4 (Nat.le_of_ble_eq_true rfl) wd_1_124 ha_x10 hv_x10 dX4_addImage_36 ?_
      refine r_iconst (v := 1) (by decide) dX4_addImage_39 ?_
      refine r_iadd (x := x10) (y := 1) dX4_addImage_40 ?_
      obtain ⟨fs_x12, ha_x12, hf⟩ := hf
      generalize hσ11 : hset σ8 v0 (.inl (4, fs_x12.set 4 (aI (x10 + 1)))) = σ11 at hf
      refine r_put (Cn := RX4) (Tt := TX4) (N := 5) (n := 4) (v := aI (x10 + 1)) rfl uw_X4 (Nat.le_of_ble_eq_true rfl) wd_1_124 ha_x12 (ty0 := tyX4) tyX4_ok nmX4 rfl (fo_I (x10 + 1)) dX4_addImage_41 ?_
      rw [hσ11]
      refine r_aload_n (j := 0) rfl rfl dX4_addImage_44 ?_
      obtain ⟨fs_x13, x13, ha_x13, hv_x13, hf⟩ := hf
      refine r_get (Cn := RX4) (Tt := TX4) (N := 5) (n := 4) rfl uw_X4 (Nat.le_of_ble_eq_true rfl) wd_1_124 ha_x13 hv_x13 dX4_addImage_45 ?_
      refine r_iconst (v := 1) (by decide) dX4_addImage_48 ?_
      refine r_isub (x := x13) (y := 1) dX4_addImage_49 ?_
      exact r_ireturn rfl dX4_addImage_50 rfl ⟨_, rfl, hf⟩
    · replace hf := hf.2 hc
      exact r_sub [] rfl (b_X4_addImage_19 hf)
theorem m_X4_addImage {l : Launch} {G : GG} {d : Nat} {v0 : Nat} {v1 : Nat} {σ : Hp} {K : Int32 → Hp → Prop} (hr : rv σ v0 4) (hf : F_X4_addImage l G d v0 v1 σ K) : C_X4_addImage l G (d + 1) v0 v1 σ K := ⟨hr, Sp.of (by decide) (Nat.le_of_ble_eq_true rfl) (b_X4_addImage_0 hf) rfl⟩
def F_X4_backTo_21 (l : Launch) (G : GG) (d : Nat) (σ : Hp) (K : Bool → Hp → Prop) : Prop :=
  K false σ
set_option maxRecDepth 100000 in
set_option maxHeartbeats 4000000 in
theorem b_X4_backTo_21 {l : Launch} {G : GG} {d : Nat} {σ : Hp} {K : Bool → Hp → Prop} (hf : F_X4_backTo_21 l G d  σ K) : Wd l G (d + 1) "CoinsLaid$Past" yX4_backTo cX4_backTo 3 (some FieldType.boolean) 21 [] [] σ 0 0 (xM (QZ K)) := by
  unfold F_X4_backTo_21 at hf
  refine r_iconst (v := 0) (by decide) dX4_backTo_21 ?_
  exact r_zreturn (b := false) rfl dX4_backTo_22 rfl ⟨_, rfl, hf⟩
def F_X4_backTo (l : Launch) (G : GG) (d : Nat) (v0 : Nat) (v1 : Int32) (v2 : Nat) (σ : Hp) (K : Bool → Hp → Prop) : Prop :=
  ((v1 : Int32) < 0 →
    F_X4_backTo_21 l G d σ K) ∧
  (¬ (v1 : Int32) < 0 →
    fI σ v0 4 4 fun x1 =>
    ((x1 : Int32) ≤ (v1 : Int32) →
      F_X4_backTo_21 l G d σ K) ∧
    (¬ (x1 : Int32) ≤ (v1 : Int32) →
      fN σ v0 4 3 fun x2 =>
      aL σ x2 fun x3 =>
      ((v1 : Int32) < (x3 : Int32) →
        fN σ v0 4 3 fun x4 =>
        gN 4 σ x4 v1 fun x5 =>
        C_X1_copy l G d v2 x5 σ fun σ6 =>
        pF σ6 v0 4 2 (aI 0) fun σ8 =>
        K true σ8) ∧
      (¬ (v1 : Int32) < (x3 : Int32) →
        F_X4_backTo_21 l G d σ K)))
set_option maxRecDepth 100000 in
set_option maxHeartbeats 4000000 in
theorem b_X4_backTo_0 {l : Launch} {G : GG} {d : Nat} {v0 : Nat} {v1 : Int32} {v2 : Nat} {σ : Hp} {K : Bool → Hp → Prop} (hf : F_X4_backTo l G d v0 v1 v2 σ K) : Wd l G (d + 1) "CoinsLaid$Past" yX4_backTo cX4_backTo 3 (some FieldType.boolean) 0 [(0, aR (some v0)), (1, aI v1), (2, aR (some v2))] [] σ 0 0 (xM (QZ K)) := by
  unfold F_X4_backTo at hf
  refine r_iload_n (j := 1) rfl rfl dX4_backTo_0 ?_
  refine r_iflt (x := v1) (tgt := 21) (by decide) dX4_backTo_1 (fun hc => ?_) (fun hc => ?_)
  · replace hf := hf.1 hc
    exact r_sub [] rfl (b_X4_backTo_21 hf)
  · replace hf := hf.2 hc
    refine r_iload_n (j := 1) rfl rfl dX4_backTo_4 ?_
    refine r_aload_n (j := 0) rfl rfl dX4_backTo_5 ?_
    obtain ⟨fs_x1, x1, ha_x1, hv_x1, hf⟩ := hf
    refine r_get (Cn := RX4) (Tt := TX4) (N := 5) (n := 4) rfl uw_X4 (Nat.le_of_ble_eq_true rfl) wd_1_124 ha_x1 hv_x1 dX4_backTo_6 ?_
    refine r_icmpge (x := v1) (y := x1) (tgt := 21) (by decide) dX4_backTo_9 (fun hc => ?_) (fun hc => ?_)
    · replace hf := hf.1 hc
      exact r_sub [] rfl (b_X4_backTo_21 hf)
    · replace hf := hf.2 hc
      refine r_iload_n (j := 1) rfl rfl dX4_backTo_12 ?_
      refine r_aload_n (j := 0) rfl rfl dX4_backTo_13 ?_
      obtain ⟨fs_x2, x2, ha_x2, hv_x2, hf⟩ := hf
      refine r_get (Cn := RX4) (Tt := TX4) (N := 5) (n := 3) rfl uw_X4 (Nat.le_of_ble_eq_true rfl) wd_1_123 ha_x2 hv_x2 dX4_backTo_14 ?_
      obtain ⟨t_x3, N_x3, f_x3, ha_x3, hf⟩ := hf
      refine r_alen ha_x3 dX4_backTo_17 ?_
      generalize nI N_x3 = x3 at hf ⊢
      refine r_icmplt (x := v1) (y := x3) (tgt := 23) (by decide) dX4_backTo_18 (fun hc => ?_) (fun hc => ?_)
      · replace hf := hf.1 hc
        refine r_aload_n (j := 2) rfl rfl dX4_backTo_23 ?_
        refine r_aload_n (j := 0) rfl rfl dX4_backTo_24 ?_
        obtain ⟨fs_x4, x4, ha_x4, hv_x4, hf⟩ := hf
        refine r_get (Cn := RX4) (Tt := TX4) (N := 5) (n := 3) rfl uw_X4 (Nat.le_of_ble_eq_true rfl) wd_1_123 ha_x4 hv_x4 dX4_backTo_25 ?_
        refine r_iload_n (j := 1) rfl rfl dX4_backTo_28 ?_
        obtain ⟨N_x5, f_x5, x5, ha_x5, hi_x5, hv_x5, hf⟩ := hf
        refine r_aald4 ha_x5 hi_x5 dX4_backTo_29 ?_
        rw [hv_x5]
        try unfold C_X1_copy at hf
        obtain ⟨⟨fs_r7, ha_r7⟩, hf⟩ := hf
        refine r_invVU (t := 1) (As := [aR (some x5)]) (dz := d) (mz := 0) (sz := 0) rfl wd_6_39 wd_4_103 wd_4_104 cf_X1_copy (Nat.le_refl _) (Nat.zero_le _) (Nat.zero_le _) (cat_ok (Nat.le_of_ble_eq_true rfl)) rfl rfl ha_r7 dX4_backTo_30 hf (fun σ6 hk => ?_)
        replace hf := hk
        clear hk
        refine r_aload_n (j := 0) rfl rfl dX4_backTo_33 ?_
        refine r_iconst (v := 0) (by decide) dX4_backTo_34 ?_
        obtain ⟨fs_x9, ha_x9, hf⟩ := hf
        generalize hσ8 : hset σ6 v0 (.inl (4, fs_x9.set 2 (aI 0))) = σ8 at hf
        refine r_put (Cn := RX4) (Tt := TX4) (N := 5) (n := 2) (v := aI 0) rfl uw_X4 (Nat.le_of_ble_eq_true rfl) wd_1_121 ha_x9 (ty0 := tyX4) tyX4_ok nmX4 rfl (fo_I 0) dX4_backTo_35 ?_
        rw [hσ8]
        refine r_iconst (v := 1) (by decide) dX4_backTo_38 ?_
        exact r_zreturn (b := true) rfl dX4_backTo_39 rfl ⟨_, rfl, hf⟩
      · replace hf := hf.2 hc
        exact r_sub [] rfl (b_X4_backTo_21 hf)
theorem m_X4_backTo {l : Launch} {G : GG} {d : Nat} {v0 : Nat} {v1 : Int32} {v2 : Nat} {σ : Hp} {K : Bool → Hp → Prop} (hr : rv σ v0 4) (hf : F_X4_backTo l G d v0 v1 v2 σ K) : C_X4_backTo l G (d + 1) v0 v1 v2 σ K := ⟨hr, Sp.of (by decide) (Nat.le_of_ble_eq_true rfl) (b_X4_backTo_0 hf) rfl⟩
def F_X7_init (l : Launch) (G : GG) (d : Nat) (v0 : Nat) (σ : Hp) (bc bs : Nat) (K : Hp → Prop) : Prop :=
  nM_ σ 10 201 bc bs fun N3 M4 q1 σ2 =>
  pF σ2 v0 7 0 (aR (some q1)) fun σ5 =>
  nZ_ σ5 10 (bc - (1 + N3)) (bs - (N3 + N3 * M4)) fun N9 q7 σ8 =>
  pF σ8 v0 7 1 (aR (some q7)) fun σ10 =>
  nI_ σ10 0 ((bc - (1 + N3)) - 1) ((bs - (N3 + N3 * M4)) - N9) fun N14 q12 σ13 =>
  pF σ13 v0 7 2 (aR (some q12)) fun σ15 =>
  nI_ σ15 256 (((bc - (1 + N3)) - 1) - 1) (((bs - (N3 + N3 * M4)) - N9) - N14) fun N19 q17 σ18 =>
  pF σ18 v0 7 3 (aR (some q17)) fun σ20 =>
  K σ20
set_option maxRecDepth 100000 in
set_option maxHeartbeats 4000000 in
theorem b_X7_init_0 {l : Launch} {G : GG} {d : Nat} {v0 : Nat} {σ : Hp} {bc bs : Nat} {K : Hp → Prop} (hf : F_X7_init l G d v0 σ bc bs K) : Wd l G (d + 1) "CoinsLaid$Rows" yX7_init cX7_init 1 none 0 [(0, aR (some v0))] [] σ bc bs (xM (QV K)) := by
  unfold F_X7_init at hf
  refine r_aload_n (j := 0) rfl rfl dX7_init_0 ?_
  refine r_objInit wd_1_154 wd_1_37 wd_1_38 (Nat.le_add_left 1 d) (cat_ok (Nat.le_of_ble_eq_true rfl)) dX7_init_1 ?_
  refine r_aload_n (j := 0) rfl rfl dX7_init_4 ?_
  refine r_bipush (v := 10) (by decide) dX7_init_5 ?_
  refine r_sipush (v := 201) (by decide) dX7_init_7 ?_
  obtain ⟨N3, M4, hn_N3, hk_N3, hl_N3, hm_N3, hbc, hbs, hf⟩ := hf
  refine r_mna wd_1_155 wd_1_80 hn_N3 hk_N3 hl_N3 hm_N3 hbc hbs dX7_init_10 (fun q1 hq_q1 => ?_)
  replace hf := hf q1 hq_q1
  refine Eq.mpr (congrArg (fun z => Wd _ _ _ _ _ _ _ _ _ _ _ z _ _ _) (rfl : _ = (fun z => if z = q1 then some (rA 5 N3 fun j => some (q1 + 1 + j)) else if q1 < z ∧ z ≤ q1 + N3 then some (iA M4 fun _ => 0) else σ z : Hp))) ?_
  generalize (fun z => if z = q1 then some (rA 5 N3 fun j => some (q1 + 1 + j)) else if q1 < z ∧ z ≤ q1 + N3 then some (iA M4 fun _ => 0) else σ z : Hp) = σ2 at hf ⊢
  obtain ⟨fs_x6, ha_x6, hf⟩ := hf
  generalize hσ5 : hset σ2 v0 (.inl (7, fs_x6.set 0 (aR (some q1)))) = σ5 at hf
  refine r_putF (Cn := RX7) (Tt := TX7) (N := 5) (n := 0) (v := aR (some q1)) rfl uw_X7 (Nat.le_of_ble_eq_true rfl) wd_1_157 ha_x6 (ty0 := tyX7) tyX7_ok nmX7 rfl rfl rfl (fo_A _ (some q1)) dX7_init_14 ?_
  rw [hσ5]
  refine r_aload_n (j := 0) rfl rfl dX7_init_17 ?_
  refine r_bipush (v := 10) (by decide) dX7_init_18 ?_
  obtain ⟨N9, hn_N9, hl_N9, hbc, hbs, hf⟩ := hf
  refine r_newZ wd_1_81 hn_N9 hl_N9 hbc hbs dX7_init_20 (fun q7 hq_q7 => ?_)
  replace hf := hf q7 hq_q7
  refine Eq.mpr (congrArg (fun z => Wd _ _ _ _ _ _ _ _ _ _ _ z _ _ _) (rfl : _ = hset σ5 q7 (zA N9 fun _ => false))) ?_
  generalize hset σ5 q7 (zA N9 fun _ => false) = σ8 at hf ⊢
  obtain ⟨fs_x11, ha_x11, hf⟩ := hf
  generalize hσ10 : hset σ8 v0 (.inl (7, fs_x11.set 1 (aR (some q7)))) = σ10 at hf
  refine r_putF (Cn := RX7) (Tt := TX7) (N := 5) (n := 1) (v := aR (some q7)) rfl uw_X7 (Nat.le_of_ble_eq_true rfl) wd_1_158 ha_x11 (ty0 := tyX7) tyX7_ok nmX7 rfl rfl rfl (fo_A _ (some q7)) dX7_init_22 ?_
  rw [hσ10]
  refine r_aload_n (j := 0) rfl rfl dX7_init_25 ?_
  refine r_iconst (v := 0) (by decide) dX7_init_26 ?_
  obtain ⟨N14, hn_N14, hl_N14, hbc, hbs, hf⟩ := hf
  refine r_newI wd_1_80 hn_N14 hl_N14 hbc hbs dX7_init_27 (fun q12 hq_q12 => ?_)
  replace hf := hf q12 hq_q12
  refine Eq.mpr (congrArg (fun z => Wd _ _ _ _ _ _ _ _ _ _ _ z _ _ _) (rfl : _ = hset σ10 q12 (iA N14 fun _ => 0))) ?_
  generalize hset σ10 q12 (iA N14 fun _ => 0) = σ13 at hf ⊢
  obtain ⟨fs_x16, ha_x16, hf⟩ := hf
  generalize hσ15 : hset σ13 v0 (.inl (7, fs_x16.set 2 (aR (some q12)))) = σ15 at hf
  refine r_putF (Cn := RX7) (Tt := TX7) (N := 5) (n := 2) (v := aR (some q12)) rfl uw_X7 (Nat.le_of_ble_eq_true rfl) wd_1_159 ha_x16 (ty0 := tyX7) tyX7_ok nmX7 rfl rfl rfl (fo_A _ (some q12)) dX7_init_29 ?_
  rw [hσ15]
  refine r_aload_n (j := 0) rfl rfl dX7_init_32 ?_
  refine r_sipush (v := 256) (by decide) dX7_init_33 ?_
  obtain ⟨N19, hn_N19, hl_N19, hbc, hbs, hf⟩ := hf
  refine r_newI wd_1_80 hn_N19 hl_N19 hbc hbs dX7_init_36 (fun q17 hq_q17 => ?_)
  replace hf := hf q17 hq_q17
  refine Eq.mpr (congrArg (fun z => Wd _ _ _ _ _ _ _ _ _ _ _ z _ _ _) (rfl : _ = hset σ15 q17 (iA N19 fun _ => 0))) ?_
  generalize hset σ15 q17 (iA N19 fun _ => 0) = σ18 at hf ⊢
  obtain ⟨fs_x21, ha_x21, hf⟩ := hf
  generalize hσ20 : hset σ18 v0 (.inl (7, fs_x21.set 3 (aR (some q17)))) = σ20 at hf
  refine r_putF (Cn := RX7) (Tt := TX7) (N := 5) (n := 3) (v := aR (some q17)) rfl uw_X7 (Nat.le_of_ble_eq_true rfl) wd_1_160 ha_x21 (ty0 := tyX7) tyX7_ok nmX7 rfl rfl rfl (fo_A _ (some q17)) dX7_init_38 ?_
  rw [hσ20]
  exact r_return rfl dX7_init_41 rfl ⟨rfl, hf⟩
theorem m_X7_init {l : Launch} {G : GG} {d : Nat} {mc ms : Nat} {v0 : Nat} {σ : Hp} {K : Hp → Prop} (hf : F_X7_init l G d v0 σ mc ms K) : C_X7_init l G (d + 1) mc ms v0 σ K := Sp.of (by decide) (Nat.le_of_ble_eq_true rfl) (b_X7_init_0 hf) rfl
def F_X7_isLength_16 (l : Launch) (G : GG) (d : Nat) (s0 : Bool) (σ : Hp) (K : Bool → Hp → Prop) : Prop :=
  K s0 σ
set_option maxRecDepth 100000 in
set_option maxHeartbeats 4000000 in
theorem b_X7_isLength_16 {l : Launch} {G : GG} {d : Nat} {s0 : Bool} {σ : Hp} {K : Bool → Hp → Prop} (hf : F_X7_isLength_16 l G d s0 σ K) : Wd l G (d + 1) "CoinsLaid$Rows" yX7_isLength cX7_isLength 1 (some FieldType.boolean) 16 [] [aI (bi s0)] σ 0 0 (xM (QZ K)) := by
  unfold F_X7_isLength_16 at hf
  exact r_zreturn (b := s0) rfl dX7_isLength_16 rfl ⟨_, rfl, hf⟩
def F_X7_isLength_15 (l : Launch) (G : GG) (d : Nat) (σ : Hp) (K : Bool → Hp → Prop) : Prop :=
  F_X7_isLength_16 l G d false σ K
set_option maxRecDepth 100000 in
set_option maxHeartbeats 4000000 in
theorem b_X7_isLength_15 {l : Launch} {G : GG} {d : Nat} {σ : Hp} {K : Bool → Hp → Prop} (hf : F_X7_isLength_15 l G d  σ K) : Wd l G (d + 1) "CoinsLaid$Rows" yX7_isLength cX7_isLength 1 (some FieldType.boolean) 15 [] [] σ 0 0 (xM (QZ K)) := by
  unfold F_X7_isLength_15 at hf
  refine r_iconst (v := 0) (by decide) dX7_isLength_15 ?_
  exact r_sub [] rfl (b_X7_isLength_16 hf)
def F_X7_isLength (l : Launch) (G : GG) (d : Nat) (v0 : Int32) (σ : Hp) (K : Bool → Hp → Prop) : Prop :=
  ((v0 : Int32) < 0 →
    F_X7_isLength_15 l G d σ K) ∧
  (¬ (v0 : Int32) < 0 →
    ((200 : Int32) < (v0 : Int32) →
      F_X7_isLength_15 l G d σ K) ∧
    (¬ (200 : Int32) < (v0 : Int32) →
      F_X7_isLength_16 l G d true σ K))
set_option maxRecDepth 100000 in
set_option maxHeartbeats 4000000 in
theorem b_X7_isLength_0 {l : Launch} {G : GG} {d : Nat} {v0 : Int32} {σ : Hp} {K : Bool → Hp → Prop} (hf : F_X7_isLength l G d v0 σ K) : Wd l G (d + 1) "CoinsLaid$Rows" yX7_isLength cX7_isLength 1 (some FieldType.boolean) 0 [(0, aI v0)] [] σ 0 0 (xM (QZ K)) := by
  unfold F_X7_isLength at hf
  refine r_iload_n (j := 0) rfl rfl dX7_isLength_0 ?_
  refine r_iflt (x := v0) (tgt := 15) (by decide) dX7_isLength_1 (fun hc => ?_) (fun hc => ?_)
  · replace hf := hf.1 hc
    exact r_sub [] rfl (b_X7_isLength_15 hf)
  · replace hf := hf.2 hc
    refine r_iload_n (j := 0) rfl rfl dX7_isLength_4 ?_
    refine r_sipush (v := 200) (by decide) dX7_isLength_5 ?_
    refine r_icmpgt (x := v0) (y := 200) (tgt := 15) (by decide) dX7_isLength_8 (fun hc => ?_) (fun hc => ?_)
    · replace hf := hf.1 hc
      exact r_sub [] rfl (b_X7_isLength_15 hf)
    · replace hf := hf.2 hc
      refine r_iconst (v := 1) (by decide) dX7_isLength_11 ?_
      refine r_goto (tgt := 16) (by decide) dX7_isLength_12 ?_
      exact r_sub [] rfl (b_X7_isLength_16 hf)
theorem m_X7_isLength {l : Launch} {G : GG} {d : Nat} {v0 : Int32} {σ : Hp} {K : Bool → Hp → Prop} (hf : F_X7_isLength l G d v0 σ K) : C_X7_isLength l G (d + 1) v0 σ K := Sp.of (by decide) (Nat.le_of_ble_eq_true rfl) (b_X7_isLength_0 hf) rfl
def F_X7_isWidth_16 (l : Launch) (G : GG) (d : Nat) (s0 : Bool) (σ : Hp) (K : Bool → Hp → Prop) : Prop :=
  K s0 σ
set_option maxRecDepth 100000 in
set_option maxHeartbeats 4000000 in
theorem b_X7_isWidth_16 {l : Launch} {G : GG} {d : Nat} {s0 : Bool} {σ : Hp} {K : Bool → Hp → Prop} (hf : F_X7_isWidth_16 l G d s0 σ K) : Wd l G (d + 1) "CoinsLaid$Rows" yX7_isWidth cX7_isWidth 1 (some FieldType.boolean) 16 [] [aI (bi s0)] σ 0 0 (xM (QZ K)) := by
  unfold F_X7_isWidth_16 at hf
  exact r_zreturn (b := s0) rfl dX7_isWidth_16 rfl ⟨_, rfl, hf⟩
def F_X7_isWidth_15 (l : Launch) (G : GG) (d : Nat) (σ : Hp) (K : Bool → Hp → Prop) : Prop :=
  F_X7_isWidth_16 l G d false σ K
set_option maxRecDepth 100000 in
set_option maxHeartbeats 4000000 in
theorem b_X7_isWidth_15 {l : Launch} {G : GG} {d : Nat} {σ : Hp} {K : Bool → Hp → Prop} (hf : F_X7_isWidth_15 l G d  σ K) : Wd l G (d + 1) "CoinsLaid$Rows" yX7_isWidth cX7_isWidth 1 (some FieldType.boolean) 15 [] [] σ 0 0 (xM (QZ K)) := by
  unfold F_X7_isWidth_15 at hf
  refine r_iconst (v := 0) (by decide) dX7_isWidth_15 ?_
  exact r_sub [] rfl (b_X7_isWidth_16 hf)
def F_X7_isWidth (l : Launch) (G : GG) (d : Nat) (v0 : Int32) (σ : Hp) (K : Bool → Hp → Prop) : Prop :=
  ((v0 : Int32) < (1 : Int32) →
    F_X7_isWidth_15 l G d σ K) ∧
  (¬ (v0 : Int32) < (1 : Int32) →
    ((9 : Int32) < (v0 : Int32) →
      F_X7_isWidth_15 l G d σ K) ∧
    (¬ (9 : Int32) < (v0 : Int32) →
      F_X7_isWidth_16 l G d true σ K))
set_option maxRecDepth 100000 in
set_option maxHeartbeats 4000000 in
theorem b_X7_isWidth_0 {l : Launch} {G : GG} {d : Nat} {v0 : Int32} {σ : Hp} {K : Bool → Hp → Prop} (hf : F_X7_isWidth l G d v0 σ K) : Wd l G (d + 1) "CoinsLaid$Rows" yX7_isWidth cX7_isWidth 1 (some FieldType.boolean) 0 [(0, aI v0)] [] σ 0 0 (xM (QZ K)) := by
  unfold F_X7_isWidth at hf
  refine r_iload_n (j := 0) rfl rfl dX7_isWidth_0 ?_
  refine r_iconst (v := 1) (by decide) dX7_isWidth_1 ?_
  refine r_icmplt (x := v0) (y := 1) (tgt := 15) (by decide) dX7_isWidth_2 (fun hc => ?_) (fun hc => ?_)
  · replace hf := hf.1 hc
    exact r_sub [] rfl (b_X7_isWidth_15 hf)
  · replace hf := hf.2 hc
    refine r_iload_n (j := 0) rfl rfl dX7_isWidth_5 ?_
    refine r_bipush (v := 9) (by decide) dX7_isWidth_6 ?_
    refine r_icmpgt (x := v0) (y := 9) (tgt := 15) (by decide) dX7_isWidth_8 (fun hc => ?_) (fun hc => ?_)
    · replace hf := hf.1 hc
      exact r_sub [] rfl (b_X7_isWidth_15 hf)
    · replace hf := hf.2 hc
      refine r_iconst (v := 1) (by decide) dX7_isWidth_11 ?_
      refine r_goto (tgt := 16) (by decide) dX7_isWidth_12 ?_
      exact r_sub [] rfl (b_X7_isWidth_16 hf)
theorem m_X7_isWidth {l : Launch} {G : GG} {d : Nat} {v0 : Int32} {σ : Hp} {K : Bool → Hp → Prop} (hf : F_X7_isWidth l G d v0 σ K) : C_X7_isWidth l G (d + 1) v0 σ K := Sp.of (by decide) (Nat.le_of_ble_eq_true rfl) (b_X7_isWidth_0 hf) rfl
def F_X7_sizeOf_23 (l : Launch) (G : GG) (d : Nat) (s0 : Int32) (σ : Hp) (K : Int32 → Hp → Prop) : Prop :=
  K s0 σ
set_option maxRecDepth 100000 in
set_option maxHeartbeats 4000000 in
theorem b_X7_sizeOf_23 {l : Launch} {G : GG} {d : Nat} {s0 : Int32} {σ : Hp} {K : Int32 → Hp → Prop} (hf : F_X7_sizeOf_23 l G d s0 σ K) : Wd l G (d + 1) "CoinsLaid$Rows" yX7_sizeOf cX7_sizeOf 4 (some FieldType.int) 23 [] [aI s0] σ 0 0 (xM (QI K)) := by
  unfold F_X7_sizeOf_23 at hf
  exact r_ireturn rfl dX7_sizeOf_23 rfl ⟨_, rfl, hf⟩
def F_X7_sizeOf_22 (l : Launch) (G : GG) (d : Nat) (σ : Hp) (K : Int32 → Hp → Prop) : Prop :=
  F_X7_sizeOf_23 l G d 0 σ K
set_option maxRecDepth 100000 in
set_option maxHeartbeats 4000000 in
theorem b_X7_sizeOf_22 {l : Launch} {G : GG} {d : Nat} {σ : Hp} {K : Int32 → Hp → Prop} (hf : F_X7_sizeOf_22 l G d  σ K) : Wd l G (d + 1) "CoinsLaid$Rows" yX7_sizeOf cX7_sizeOf 4 (some FieldType.int) 22 [] [] σ 0 0 (xM (QI K)) := by
  unfold F_X7_sizeOf_22 at hf
  refine r_iconst (v := 0) (by decide) dX7_sizeOf_22 ?_
  exact r_sub [] rfl (b_X7_sizeOf_23 hf)
def F_X7_sizeOf (l : Launch) (G : GG) (d : Nat) (v0 : Nat) (v1 : Int32) (v2 : Int32) (σ : Hp) (K : Int32 → Hp → Prop) : Prop :=
  C_X7_rowOf l G d v0 v2 σ fun r2 σ1 =>
  ((v1 : Int32) < 0 →
    F_X7_sizeOf_22 l G d σ1 K) ∧
  (¬ (v1 : Int32) < 0 →
    aL σ1 r2 fun x3 =>
    ((x3 : Int32) ≤ (v1 : Int32) →
      F_X7_sizeOf_22 l G d σ1 K) ∧
    (¬ (x3 : Int32) ≤ (v1 : Int32) →
      gI σ1 r2 v1 fun x4 =>
      F_X7_sizeOf_23 l G d x4 σ1 K))
set_option maxRecDepth 100000 in
set_option maxHeartbeats 4000000 in
theorem b_X7_sizeOf_0 {l : Launch} {G : GG} {d : Nat} {v0 : Nat} {v1 : Int32} {v2 : Int32} {σ : Hp} {K : Int32 → Hp → Prop} (hf : F_X7_sizeOf l G d v0 v1 v2 σ K) : Wd l G (d + 1) "CoinsLaid$Rows" yX7_sizeOf cX7_sizeOf 4 (some FieldType.int) 0 [(0, aR (some v0)), (1, aI v1), (2, aI v2)] [] σ 0 0 (xM (QI K)) := by
  unfold F_X7_sizeOf at hf
  refine r_aload_n (j := 0) rfl rfl dX7_sizeOf_0 ?_
  refine r_iload_n (j := 2) rfl rfl dX7_sizeOf_1 ?_
  try unfold C_X7_rowOf at hf
  obtain ⟨⟨fs_r2, ha_r2⟩, hf⟩ := hf
  refine r_invVN (t := 7) (As := [aI v2]) (dz := d) (mz := 0) (sz := 0) rfl wd_5_163 wd_5_165 wd_p_42 cf_X7_rowOf (Nat.le_refl _) (Nat.zero_le _) (Nat.zero_le _) (cat_ok (Nat.le_of_ble_eq_true rfl)) rfl rfl ha_r2 dX7_sizeOf_2 hf (fun r2 σ1 hk => ?_)
  replace hf := hk
  clear hk
  refine r_astore_n (L' := [(3, aR (some r2)), (0, aR (some v0)), (1, aI v1), (2, aI v2)]) rfl rfl (Nat.le_of_ble_eq_true rfl) dX7_sizeOf_5 ?_
  refine r_iload_n (j := 2) rfl rfl dX7_sizeOf_6 ?_
  refine r_iflt (x := v1) (tgt := 22) (by decide) dX7_sizeOf_7 (fun hc => ?_) (fun hc => ?_)
  · replace hf := hf.1 hc
    exact r_sub [] rfl (b_X7_sizeOf_22 hf)
  · replace hf := hf.2 hc
    refine r_iload_n (j := 2) rfl rfl dX7_sizeOf_10 ?_
    refine r_aload_n (j := 0) rfl rfl dX7_sizeOf_11 ?_
    obtain ⟨t_x3, N_x3, f_x3, ha_x3, hf⟩ := hf
    refine r_alen ha_x3 dX7_sizeOf_12 ?_
    generalize nI N_x3 = x3 at hf ⊢
    refine r_icmpge (x := v1) (y := x3) (tgt := 22) (by decide) dX7_sizeOf_13 (fun hc => ?_) (fun hc => ?_)
    · replace hf := hf.1 hc
      exact r_sub [] rfl (b_X7_sizeOf_22 hf)
    · replace hf := hf.2 hc
      refine r_aload_n (j := 0) rfl rfl dX7_sizeOf_16 ?_
      refine r_iload_n (j := 2) rfl rfl dX7_sizeOf_17 ?_
      obtain ⟨N_x4, f_x4, ha_x4, hi_x4, hf⟩ := hf
      refine r_iald ha_x4 hi_x4 dX7_sizeOf_18 ?_
      generalize f_x4 (v1 : Int32).toNatClampNeg = x4 at hf ⊢
      refine r_goto (tgt := 23) (by decide) dX7_sizeOf_19 ?_
      exact r_sub [] rfl (b_X7_sizeOf_23 hf)
theorem m_X7_sizeOf {l : Launch} {G : GG} {d : Nat} {v0 : Nat} {v1 : Int32} {v2 : Int32} {σ : Hp} {K : Int32 → Hp → Prop} (hr : rv σ v0 7) (hf : F_X7_sizeOf l G d v0 v1 v2 σ K) : C_X7_sizeOf l G (d + 1) v0 v1 v2 σ K := ⟨hr, Sp.of (by decide) (Nat.le_of_ble_eq_true rfl) (b_X7_sizeOf_0 hf) rfl⟩
def F_X7_rowOf_25 (l : Launch) (G : GG) (d : Nat) (v0 : Nat) (σ : Hp) (K : Nat → Hp → Prop) : Prop :=
  fN σ v0 7 2 fun x1 =>
  K x1 σ
set_option maxRecDepth 100000 in
set_option maxHeartbeats 4000000 in
theorem b_X7_rowOf_25 {l : Launch} {G : GG} {d : Nat} {v0 : Nat} {σ : Hp} {K : Nat → Hp → Prop} (hf : F_X7_rowOf_25 l G d v0 σ K) : Wd l G (d + 1) "CoinsLaid$Rows" yX7_rowOf cX7_rowOf 4 (some (FieldType.array FieldType.int)) 25 [(0, aR (some v0))] [] σ 0 0 (xM (QN K)) := by
  unfold F_X7_rowOf_25 at hf
  refine r_aload_n (j := 0) rfl rfl dX7_rowOf_25 ?_
  obtain ⟨fs_x1, x1, ha_x1, hv_x1, hf⟩ := hf
  refine r_get (Cn := RX7) (Tt := TX7) (N := 5) (n := 2) rfl uw_X7 (Nat.le_of_ble_eq_true rfl) wd_1_159 ha_x1 hv_x1 dX7_rowOf_26 ?_
  exact r_areturn rfl (Or.inr ⟨_, rfl⟩) dX7_rowOf_29 rfl ⟨_, rfl, hf⟩
def F_X7_rowOf_77 (l : Launch) (G : GG) (d : Nat) (v2 : Nat) (σ : Hp) (K : Nat → Hp → Prop) : Prop :=
  K v2 σ
set_option maxRecDepth 100000 in
set_option maxHeartbeats 4000000 in
theorem b_X7_rowOf_77 {l : Launch} {G : GG} {d : Nat} {v2 : Nat} {σ : Hp} {K : Nat → Hp → Prop} (hf : F_X7_rowOf_77 l G d v2 σ K) : Wd l G (d + 1) "CoinsLaid$Rows" yX7_rowOf cX7_rowOf 4 (some (FieldType.array FieldType.int)) 77 [(2, aR (some v2))] [] σ 0 0 (xM (QN K)) := by
  unfold F_X7_rowOf_77 at hf
  refine r_aload_n (j := 0) rfl rfl dX7_rowOf_77 ?_
  exact r_areturn rfl (Or.inr ⟨_, rfl⟩) dX7_rowOf_78 rfl ⟨_, rfl, hf⟩
def F_X7_rowOf_55 (l : Launch) (G : GG) (d : Nat) (X55 : Nat → Int32 → Nat → Int32 → Hp → Prop) (v0 : Nat) (v1 : Int32) (v2 : Nat) (v3 : Int32) (σ : Hp) (K : Nat → Hp → Prop) : Prop :=
  aL σ v2 fun x2 =>
  ((x2 : Int32) ≤ (v3 : Int32) →
    F_X7_rowOf_77 l G d v2 σ K) ∧
  (¬ (x2 : Int32) ≤ (v3 : Int32) →
    C_X7_leastMissing l G d v0 v2 v3 v1 σ fun r4 σ3 =>
    sI σ3 v2 v3 r4 fun σ5 =>
    X55 v0 v1 v2 (v3 + 1) σ5)
set_option maxRecDepth 100000 in
set_option maxHeartbeats 4000000 in
theorem b_X7_rowOf_55 {l : Launch} {G : GG} {d : Nat} {X55 : Nat → Int32 → Nat → Int32 → Hp → Prop} {v0 : Nat} {v1 : Int32} {v2 : Nat} {v3 : Int32} {σ : Hp} {K : Nat → Hp → Prop} (hX55 : ∀ v0 v1 v2 v3 σ, X55 v0 v1 v2 v3 σ → Wd l G (d + 1) "CoinsLaid$Rows" yX7_rowOf cX7_rowOf 4 (some (FieldType.array FieldType.int)) 55 [(0, aR (some v0)), (1, aI v1), (2, aR (some v2)), (3, aI v3)] [] σ 0 0 (xM (QN K))) (hf : F_X7_rowOf_55 l G d X55 v0 v1 v2 v3 σ K) : Wd l G (d + 1) "CoinsLaid$Rows" yX7_rowOf cX7_rowOf 4 (some (FieldType.array FieldType.int)) 55 [(0, aR (some v0)), (1, aI v1), (2, aR (some v2)), (3, aI v3)] [] σ 0 0 (xM (QN K)) := by
  unfold F_X7_rowOf_55 at hf
  refine r_iload_n (j := 3) rfl rfl dX7_rowOf_55 ?_
  refine r_aload_n (j := 2) rfl rfl dX7_rowOf_56 ?_
  obtain ⟨t_x2, N_x2, f_x2, ha_x2, hf⟩ := hf
  refine r_alen ha_x2 dX7_rowOf_57 ?_
  generalize nI N_x2 = x2 at hf ⊢
  refine r_icmpge (x := v3) (y := x2) (tgt := 77) (by decide) dX7_rowOf_58 (fun hc => ?_) (fun hc => ?_)
  · replace hf := hf.1 hc
    exact r_sub [2] rfl (b_X7_rowOf_77 hf)
  · replace hf := hf.2 hc
    refine r_aload_n (j := 2) rfl rfl dX7_rowOf_61 ?_
    refine r_iload_n (j := 3) rfl rfl dX7_rowOf_62 ?_
    refine r_aload_n (j := 0) rfl rfl dX7_rowOf_63 ?_
    refine r_aload_n (j := 2) rfl rfl dX7_rowOf_64 ?_
    refine r_iload_n (j := 3) rfl rfl dX7_rowOf_65 ?_
    refine r_iload_n (j := 1) rfl rfl dX7_rowOf_66 ?_
    try unfold C_X7_leastMissing at hf
    obtain ⟨⟨fs_r4, ha_r4⟩, hf⟩ := hf
    refine r_invVI (t := 7) (As := [aR (some v2), aI v3, aI v1]) (dz := d) (mz := 0) (sz := 0) rfl wd_5_168 wd_5_170 wd_p_43 cf_X7_leastMissing (Nat.le_refl _) (Nat.zero_le _) (Nat.zero_le _) (cat_ok (Nat.le_of_ble_eq_true rfl)) rfl rfl ha_r4 dX7_rowOf_67 hf (fun r4 σ3 hk => ?_)
    replace hf := hk
    clear hk
    obtain ⟨N_x6, f_x6, ha_x6, hi_x6, hf⟩ := hf
    generalize hσ5 : hset σ3 v2 (iA N_x6 (up_ f_x6 (v3 : Int32).toNatClampNeg r4)) = σ5 at hf
    refine r_iast (f := f_x6) (x := r4) ha_x6 hi_x6 dX7_rowOf_70 ?_
    refine Eq.mpr (congrArg (fun z => Wd _ _ _ _ _ _ _ _ _ _ _ z _ _ _) hσ5) ?_
    refine r_iinc (j := 3) (w := (v3 + 1)) (L' := [(3, aI (v3 + 1)), (0, aR (some v0)), (1, aI v1), (2, aR (some v2))]) rfl (by rfl) rfl (Nat.le_of_ble_eq_true rfl) dX7_rowOf_71 ?_
    refine r_goto (tgt := 55) (by decide) dX7_rowOf_74 ?_
    exact r_sub [1, 2, 3, 0] rfl (hX55 _ _ _ _ _ hf)
def Z_X7_rowOf_55 (l : Launch) (G : GG) (d : Nat) (K : Nat → Hp → Prop) : Nat → Nat → Int32 → Nat → Int32 → Hp → Prop
  | 0 => fun _ _ _ _ _ => False
  | n + 1 => fun v0 v1 v2 v3 σ => F_X7_rowOf_55 l G d (Z_X7_rowOf_55 l G d K n) v0 v1 v2 v3 σ K
theorem z_X7_rowOf_55 {l : Launch} {G : GG} {d : Nat} {K : Nat → Hp → Prop} : ∀ (n : Nat) v0 v1 v2 v3 σ, Z_X7_rowOf_55 l G d K n v0 v1 v2 v3 σ → Wd l G (d + 1) "CoinsLaid$Rows" yX7_rowOf cX7_rowOf 4 (some (FieldType.array FieldType.int)) 55 [(0, aR (some v0)), (1, aI v1), (2, aR (some v2)), (3, aI v3)] [] σ 0 0 (xM (QN K)) := by
  intro n
  induction n with
  | zero => intro v0 v1 v2 v3 σ hf; exact hf.elim
  | succ n ih => intro v0 v1 v2 v3 σ hf; exact b_X7_rowOf_55 ih hf
def F_X7_rowOf (l : Launch) (G : GG) (d : Nat) (v0 : Nat) (v1 : Int32) (σ : Hp) (K : Nat → Hp → Prop) : Prop :=
  C_X7_isWidth l G d v1 σ fun r8 σ7 =>
  (r8 = false →
    F_X7_rowOf_25 l G d v0 σ7 K) ∧
  (r8 = true →
    fN σ7 v0 7 0 fun x9 =>
    aL σ7 x9 fun x10 =>
    ((x10 : Int32) ≤ (v1 : Int32) →
      F_X7_rowOf_25 l G d v0 σ7 K) ∧
    (¬ (x10 : Int32) ≤ (v1 : Int32) →
      fN σ7 v0 7 1 fun x11 =>
      aL σ7 x11 fun x12 =>
      ((v1 : Int32) < (x12 : Int32) →
        fN σ7 v0 7 0 fun x13 =>
        gN 5 σ7 x13 v1 fun x14 =>
        fN σ7 v0 7 1 fun x15 =>
        gZ σ7 x15 v1 fun x16 =>
        (x16 = true →
          F_X7_rowOf_77 l G d x14 σ7 K) ∧
        (x16 = false →
          fN σ7 v0 7 1 fun x17 =>
          sZ σ7 x17 v1 true fun σ18 =>
          ∃ n, Z_X7_rowOf_55 l G d K n v0 v1 x14 0 σ18)) ∧
      (¬ (v1 : Int32) < (x12 : Int32) →
        F_X7_rowOf_25 l G d v0 σ7 K)))
set_option maxRecDepth 100000 in
set_option maxHeartbeats 4000000 in
theorem b_X7_rowOf_0 {l : Launch} {G : GG} {d : Nat} {v0 : Nat} {v1 : Int32} {σ : Hp} {K : Nat → Hp → Prop} (hf : F_X7_rowOf l G d v0 v1 σ K) : Wd l G (d + 1) "CoinsLaid$Rows" yX7_rowOf cX7_rowOf 4 (some (FieldType.array FieldType.int)) 0 [(0, aR (some v0)), (1, aI v1)] [] σ 0 0 (xM (QN K)) := by
  unfold F_X7_rowOf at hf
  refine r_iload_n (j := 1) rfl rfl dX7_rowOf_0 ?_
  try unfold C_X7_isWidth at hf
  refine r_invSZ (As := [aI v1]) (dz := d) (mz := 0) (sz := 0) rfl wd_5_167 wd_5_157 cf_X7_isWidth (Nat.le_refl _) (Nat.zero_le _) (Nat.zero_le _) (cat_ok (Nat.le_of_ble_eq_true rfl)) dX7_rowOf_1 hf (fun r8 σ7 hk => ?_)
  replace hf := hk
  clear hk
  refine r_ifeqZ (b := r8) (tgt := 25) (by decide) dX7_rowOf_4 (fun hc => ?_) (fun hc => ?_)
  · replace hf := hf.1 hc
    exact r_sub [0] rfl (b_X7_rowOf_25 hf)
  · replace hf := hf.2 hc
    refine r_iload_n (j := 1) rfl rfl dX7_rowOf_7 ?_
    refine r_aload_n (j := 0) rfl rfl dX7_rowOf_8 ?_
    obtain ⟨fs_x9, x9, ha_x9, hv_x9, hf⟩ := hf
    refine r_get (Cn := RX7) (Tt := TX7) (N := 5) (n := 0) rfl uw_X7 (Nat.le_of_ble_eq_true rfl) wd_1_157 ha_x9 hv_x9 dX7_rowOf_9 ?_
    obtain ⟨t_x10, N_x10, f_x10, ha_x10, hf⟩ := hf
    refine r_alen ha_x10 dX7_rowOf_12 ?_
    generalize nI N_x10 = x10 at hf ⊢
    refine r_icmpge (x := v1) (y := x10) (tgt := 25) (by decide) dX7_rowOf_13 (fun hc => ?_) (fun hc => ?_)
    · replace hf := hf.1 hc
      exact r_sub [0] rfl (b_X7_rowOf_25 hf)
    · replace hf := hf.2 hc
      refine r_iload_n (j := 1) rfl rfl dX7_rowOf_16 ?_
      refine r_aload_n (j := 0) rfl rfl dX7_rowOf_17 ?_
      obtain ⟨fs_x11, x11, ha_x11, hv_x11, hf⟩ := hf
      refine r_get (Cn := RX7) (Tt := TX7) (N := 5) (n := 1) rfl uw_X7 (Nat.le_of_ble_eq_true rfl) wd_1_158 ha_x11 hv_x11 dX7_rowOf_18 ?_
      obtain ⟨t_x12, N_x12, f_x12, ha_x12, hf⟩ := hf
      refine r_alen ha_x12 dX7_rowOf_21 ?_
      generalize nI N_x12 = x12 at hf ⊢
      refine r_icmplt (x := v1) (y := x12) (tgt := 30) (by decide) dX7_rowOf_22 (fun hc => ?_) (fun hc => ?_)
      · replace hf := hf.1 hc
        refine r_aload_n (j := 0) rfl rfl dX7_rowOf_30 ?_
        obtain ⟨fs_x13, x13, ha_x13, hv_x13, hf⟩ := hf
        refine r_get (Cn := RX7) (Tt := TX7) (N := 5) (n := 0) rfl uw_X7 (Nat.le_of_ble_eq_true rfl) wd_1_157 ha_x13 hv_x13 dX7_rowOf_31 ?_
        refine r_iload_n (j := 1) rfl rfl dX7_rowOf_34 ?_
        obtain ⟨N_x14, f_x14, x14, ha_x14, hi_x14, hv_x14, hf⟩ := hf
        refine r_aald5 ha_x14 hi_x14 dX7_rowOf_35 ?_
        rw [hv_x14]
        refine r_astore_n (L' := [(2, aR (some x14)), (0, aR (some v0)), (1, aI v1)]) rfl rfl (Nat.le_of_ble_eq_true rfl) dX7_rowOf_36 ?_
        refine r_aload_n (j := 1) rfl rfl dX7_rowOf_37 ?_
        obtain ⟨fs_x15, x15, ha_x15, hv_x15, hf⟩ := hf
        refine r_get (Cn := RX7) (Tt := TX7) (N := 5) (n := 1) rfl uw_X7 (Nat.le_of_ble_eq_true rfl) wd_1_158 ha_x15 hv_x15 dX7_rowOf_38 ?_
        refine r_iload_n (j := 2) rfl rfl dX7_rowOf_41 ?_
        obtain ⟨N_x16, f_x16, ha_x16, hi_x16, hf⟩ := hf
        refine r_zald ha_x16 hi_x16 dX7_rowOf_42 ?_
        generalize f_x16 (v1 : Int32).toNatClampNeg = x16 at hf ⊢
        refine r_ifneZ (b := x16) (tgt := 77) (by decide) dX7_rowOf_43 (fun hc => ?_) (fun hc => ?_)
        · replace hf := hf.1 hc
          exact r_sub [0] rfl (b_X7_rowOf_77 hf)
        · replace hf := hf.2 hc
          refine r_aload_n (j := 1) rfl rfl dX7_rowOf_46 ?_
          obtain ⟨fs_x17, x17, ha_x17, hv_x17, hf⟩ := hf
          refine r_get (Cn := RX7) (Tt := TX7) (N := 5) (n := 1) rfl uw_X7 (Nat.le_of_ble_eq_true rfl) wd_1_158 ha_x17 hv_x17 dX7_rowOf_47 ?_
          refine r_iload_n (j := 2) rfl rfl dX7_rowOf_50 ?_
          refine r_iconst (v := 1) (by decide) dX7_rowOf_51 ?_
          obtain ⟨N_x19, f_x19, ha_x19, hi_x19, hf⟩ := hf
          generalize hσ18 : hset σ7 x17 (zA N_x19 (up_ f_x19 (v1 : Int32).toNatClampNeg true)) = σ18 at hf
          refine r_zast (f := f_x19) (x := true) ha_x19 hi_x19 dX7_rowOf_52 ?_
          refine Eq.mpr (congrArg (fun z => Wd _ _ _ _ _ _ _ _ _ _ _ z _ _ _) hσ18) ?_
          refine r_iconst (v := 0) (by decide) dX7_rowOf_53 ?_
          refine r_istore_n (L' := [(3, aI 0), (2, aR (some x14)), (0, aR (some v0)), (1, aI v1)]) rfl rfl (Nat.le_of_ble_eq_true rfl) dX7_rowOf_54 ?_
          obtain ⟨n, hf⟩ := hf
          exact r_sub [2, 3, 1, 0] rfl (z_X7_rowOf_55 n _ _ _ _ _ hf)
      · replace hf := hf.2 hc
        exact r_sub [0] rfl (b_X7_rowOf_25 hf)
theorem m_X7_rowOf {l : Launch} {G : GG} {d : Nat} {v0 : Nat} {v1 : Int32} {σ : Hp} {K : Nat → Hp → Prop} (hr : rv σ v0 7) (hf : F_X7_rowOf l G d v0 v1 σ K) : C_X7_rowOf l G (d + 1) v0 v1 σ K := ⟨hr, Sp.of (by decide) (Nat.le_of_ble_eq_true rfl) (b_X7_rowOf_0 hf) rfl⟩
def F_X7_leastMissing_61 (l : Launch) (G : GG) (d : Nat) (X13 : Nat → Nat → Int32 → Int32 → Int32 → Hp → Prop) (v0 : Nat) (v1 : Nat) (v2 : Int32) (v3 : Int32) (v4 : Int32) (σ : Hp) (K : Int32 → Hp → Prop) : Prop :=
  X13 v0 v1 v2 v3 (v4 + 1) σ
set_option maxRecDepth 100000 in
set_option maxHeartbeats 4000000 in
theorem b_X7_leastMissing_61 {l : Launch} {G : GG} {d : Nat} {X13 : Nat → Nat → Int32 → Int32 → Int32 → Hp → Prop} {v0 : Nat} {v1 : Nat} {v2 : Int32} {v3 : Int32} {v4 : Int32} {σ : Hp} {K : Int32 → Hp → Prop} (hX13 : ∀ v0 v1 v2 v3 v4 σ, X13 v0 v1 v2 v3 v4 σ → Wd l G (d + 1) "CoinsLaid$Rows" yX7_leastMissing cX7_leastMissing 6 (some FieldType.int) 13 [(0, aR (some v0)), (1, aR (some v1)), (2, aI v2), (3, aI v3), (4, aI v4)] [] σ 0 0 (xM (QI K))) (hf : F_X7_leastMissing_61 l G d X13 v0 v1 v2 v3 v4 σ K) : Wd l G (d + 1) "CoinsLaid$Rows" yX7_leastMissing cX7_leastMissing 6 (some FieldType.int) 61 [(0, aR (some v0)), (1, aR (some v1)), (2, aI v2), (3, aI v3), (4, aI v4)] [] σ 0 0 (xM (QI K)) := by
  unfold F_X7_leastMissing_61 at hf
  refine r_iinc (j := 4) (w := (v4 + 1)) (L' := [(4, aI (v4 + 1)), (0, aR (some v0)), (1, aR (some v1)), (2, aI v2), (3, aI v3)]) rfl (by rfl) rfl (Nat.le_of_ble_eq_true rfl) dX7_leastMissing_61 ?_
  refine r_goto (tgt := 13) (by decide) dX7_leastMissing_64 ?_
  exact r_sub [1, 2, 3, 4, 0] rfl (hX13 _ _ _ _ _ _ hf)
def F_X7_leastMissing_70 (l : Launch) (G : GG) (d : Nat) (X70 : Nat → Int32 → Hp → Prop) (v0 : Nat) (v4 : Int32) (σ : Hp) (K : Int32 → Hp → Prop) : Prop :=
  fN σ v0 7 3 fun x1 =>
  aL σ x1 fun x2 =>
  ((x2 : Int32) ≤ (v4 : Int32) →
    K 0 σ) ∧
  (¬ (x2 : Int32) ≤ (v4 : Int32) →
    fN σ v0 7 3 fun x3 =>
    gI σ x3 v4 fun x4 =>
    fI σ v0 7 4 fun x5 =>
    ((x4 : Int32) = (x5 : Int32) →
      X70 v0 (v4 + 1) σ) ∧
    (¬ (x4 : Int32) = (x5 : Int32) →
      K v4 σ))
set_option maxRecDepth 100000 in
set_option maxHeartbeats 4000000 in
theorem b_X7_leastMissing_70 {l : Launch} {G : GG} {d : Nat} {X70 : Nat → Int32 → Hp → Prop} {v0 : Nat} {v4 : Int32} {σ : Hp} {K : Int32 → Hp → Prop} (hX70 : ∀ v0 v4 σ, X70 v0 v4 σ → Wd l G (d + 1) "CoinsLaid$Rows" yX7_leastMissing cX7_leastMissing 6 (some FieldType.int) 70 [(0, aR (some v0)), (4, aI v4)] [] σ 0 0 (xM (QI K))) (hf : F_X7_leastMissing_70 l G d X70 v0 v4 σ K) : Wd l G (d + 1) "CoinsLaid$Rows" yX7_leastMissing cX7_leastMissing 6 (some FieldType.int) 70 [(0, aR (some v0)), (4, aI v4)] [] σ 0 0 (xM (QI K)) := by
  unfold F_X7_leastMissing_70 at hf
  refine r_iload (j := 1) rfl dX7_leastMissing_70 ?_
  refine r_aload_n (j := 0) rfl rfl dX7_leastMissing_72 ?_
  obtain ⟨fs_x1, x1, ha_x1, hv_x1, hf⟩ := hf
  refine r_get (Cn := RX7) (Tt := TX7) (N := 5) (n := 3) rfl uw_X7 (Nat.le_of_ble_eq_true rfl) wd_1_160 ha_x1 hv_x1 dX7_leastMissing_73 ?_
  obtain ⟨t_x2, N_x2, f_x2, ha_x2, hf⟩ := hf
  refine r_alen ha_x2 dX7_leastMissing_76 ?_
  generalize nI N_x2 = x2 at hf ⊢
  refine r_icmpge (x := v4) (y := x2) (tgt := 103) (by decide) dX7_leastMissing_77 (fun hc => ?_) (fun hc => ?_)
  · replace hf := hf.1 hc
    refine r_iconst (v := 0) (by decide) dX7_leastMissing_103 ?_
    exact r_ireturn rfl dX7_leastMissing_104 rfl ⟨_, rfl, hf⟩
  · replace hf := hf.2 hc
    refine r_aload_n (j := 0) rfl rfl dX7_leastMissing_80 ?_
    obtain ⟨fs_x3, x3, ha_x3, hv_x3, hf⟩ := hf
    refine r_get (Cn := RX7) (Tt := TX7) (N := 5) (n := 3) rfl uw_X7 (Nat.le_of_ble_eq_true rfl) wd_1_160 ha_x3 hv_x3 dX7_leastMissing_81 ?_
    refine r_iload (j := 1) rfl dX7_leastMissing_84 ?_
    obtain ⟨N_x4, f_x4, ha_x4, hi_x4, hf⟩ := hf
    refine r_iald ha_x4 hi_x4 dX7_leastMissing_86 ?_
    generalize f_x4 (v4 : Int32).toNatClampNeg = x4 at hf ⊢
    refine r_aload_n (j := 0) rfl rfl dX7_leastMissing_87 ?_
    obtain ⟨fs_x5, x5, ha_x5, hv_x5, hf⟩ := hf
    refine r_get (Cn := RX7) (Tt := TX7) (N := 5) (n := 4) rfl uw_X7 (Nat.le_of_ble_eq_true rfl) wd_1_161 ha_x5 hv_x5 dX7_leastMissing_88 ?_
    refine r_icmpeq (x := x4) (y := x5) (tgt := 97) (by decide) dX7_leastMissing_91 (fun hc => ?_) (fun hc => ?_)
    · replace hf := hf.1 hc
      refine r_iinc (j := 1) (w := (v4 + 1)) (L' := [(4, aI (v4 + 1)), (0, aR (some v0))]) rfl (by rfl) rfl (Nat.le_of_ble_eq_true rfl) dX7_leastMissing_97 ?_
      refine r_goto (tgt := 70) (by decide) dX7_leastMissing_100 ?_
      exact r_sub [1, 0] rfl (hX70 _ _ _ hf)
    · replace hf := hf.2 hc
      refine r_iload (j := 1) rfl dX7_leastMissing_94 ?_
      exact r_ireturn rfl dX7_leastMissing_96 rfl ⟨_, rfl, hf⟩
def Z_X7_leastMissing_70 (l : Launch) (G : GG) (d : Nat) (K : Int32 → Hp → Prop) : Nat → Nat → Int32 → Hp → Prop
  | 0 => fun _ _ _ => False
  | n + 1 => fun v0 v4 σ => F_X7_leastMissing_70 l G d (Z_X7_leastMissing_70 l G d K n) v0 v4 σ K
theorem z_X7_leastMissing_70 {l : Launch} {G : GG} {d : Nat} {K : Int32 → Hp → Prop} : ∀ (n : Nat) v0 v4 σ, Z_X7_leastMissing_70 l G d K n v0 v4 σ → Wd l G (d + 1) "CoinsLaid$Rows" yX7_leastMissing cX7_leastMissing 6 (some FieldType.int) 70 [(0, aR (some v0)), (4, aI v4)] [] σ 0 0 (xM (QI K)) := by
  intro n
  induction n with
  | zero => intro v0 v4 σ hf; exact hf.elim
  | succ n ih => intro v0 v4 σ hf; exact b_X7_leastMissing_70 ih hf
def F_X7_leastMissing_13 (l : Launch) (G : GG) (d : Nat) (X13 : Nat → Nat → Int32 → Int32 → Int32 → Hp → Prop) (v0 : Nat) (v1 : Nat) (v2 : Int32) (v3 : Int32) (v4 : Int32) (σ : Hp) (K : Int32 → Hp → Prop) : Prop :=
  (((v2 - v3) : Int32) < (v4 : Int32) →
    ∃ n, Z_X7_leastMissing_70 l G d K n v0 0 σ) ∧
  (¬ ((v2 - v3) : Int32) < (v4 : Int32) →
    C_X7_behind l G d v1 v4 ((v2 - v3) - v4) σ fun r7 σ6 =>
    ((r7 : Int32) < 0 →
      F_X7_leastMissing_61 l G d X13 v0 v1 v2 v3 v4 σ6 K) ∧
    (¬ (r7 : Int32) < 0 →
      fN σ6 v0 7 3 fun x8 =>
      aL σ6 x8 fun x9 =>
      ((x9 : Int32) ≤ (r7 : Int32) →
        F_X7_leastMissing_61 l G d X13 v0 v1 v2 v3 v4 σ6 K) ∧
      (¬ (x9 : Int32) ≤ (r7 : Int32) →
        fN σ6 v0 7 3 fun x10 =>
        fI σ6 v0 7 4 fun x11 =>
        sI σ6 x10 r7 x11 fun σ12 =>
        F_X7_leastMissing_61 l G d X13 v0 v1 v2 v3 v4 σ12 K)))
set_option maxRecDepth 100000 in
set_option maxHeartbeats 4000000 in
theorem b_X7_leastMissing_13 {l : Launch} {G : GG} {d : Nat} {X13 : Nat → Nat → Int32 → Int32 → Int32 → Hp → Prop} {v0 : Nat} {v1 : Nat} {v2 : Int32} {v3 : Int32} {v4 : Int32} {σ : Hp} {K : Int32 → Hp → Prop} (hX13 : ∀ v0 v1 v2 v3 v4 σ, X13 v0 v1 v2 v3 v4 σ → Wd l G (d + 1) "CoinsLaid$Rows" yX7_leastMissing cX7_leastMissing 6 (some FieldType.int) 13 [(0, aR (some v0)), (1, aR (some v1)), (2, aI v2), (3, aI v3), (4, aI v4)] [] σ 0 0 (xM (QI K))) (hf : F_X7_leastMissing_13 l G d X13 v0 v1 v2 v3 v4 σ K) : Wd l G (d + 1) "CoinsLaid$Rows" yX7_leastMissing cX7_leastMissing 6 (some FieldType.int) 13 [(0, aR (some v0)), (1, aR (some v1)), (2, aI v2), (3, aI v3), (4, aI v4)] [] σ 0 0 (xM (QI K)) := by
  unfold F_X7_leastMissing_13 at hf
  refine r_iload (j := 4) rfl dX7_leastMissing_13 ?_
  refine r_iload_n (j := 2) rfl rfl dX7_leastMissing_15 ?_
  refine r_iload_n (j := 3) rfl rfl dX7_leastMissing_16 ?_
  refine r_isub (x := v2) (y := v3) dX7_leastMissing_17 ?_
  refine r_icmpgt (x := v4) (y := (v2 - v3)) (tgt := 67) (by decide) dX7_leastMissing_18 (fun hc => ?_) (fun hc => ?_)
  · replace hf := hf.1 hc
    refine r_iconst (v := 0) (by decide) dX7_leastMissing_67 ?_
    refine r_istore (L' := [(4, aI 0), (0, aR (some v0)), (1, aR (some v1)), (2, aI v2), (3, aI v3)]) rfl (Nat.le_of_ble_eq_true rfl) dX7_leastMissing_68 ?_
    obtain ⟨n, hf⟩ := hf
    exact r_sub [1, 0] rfl (z_X7_leastMissing_70 n _ _ _ hf)
  · replace hf := hf.2 hc
    refine r_aload_n (j := 1) rfl rfl dX7_leastMissing_21 ?_
    refine r_iload (j := 4) rfl dX7_leastMissing_22 ?_
    refine r_iload_n (j := 2) rfl rfl dX7_leastMissing_24 ?_
    refine r_iload_n (j := 3) rfl rfl dX7_leastMissing_25 ?_
    refine r_isub (x := v2) (y := v3) dX7_leastMissing_26 ?_
    refine r_iload (j := 4) rfl dX7_leastMissing_27 ?_
    refine r_isub (x := (v2 - v3)) (y := v4) dX7_leastMissing_29 ?_
    try unfold C_X7_behind at hf
    refine r_invSI (As := [aR (some v1), aI v4, aI ((v2 - v3) - v4)]) (dz := d) (mz := 0) (sz := 0) rfl wd_5_172 wd_5_173 cf_X7_behind (Nat.le_refl _) (Nat.zero_le _) (Nat.zero_le _) (cat_ok (Nat.le_of_ble_eq_true rfl)) dX7_leastMissing_30 hf (fun r7 σ6 hk => ?_)
    replace hf := hk
    clear hk
    refine r_istore (L' := [(5, aI r7), (0, aR (some v0)), (1, aR (some v1)), (2, aI v2), (3, aI v3), (4, aI v4)]) rfl (Nat.le_of_ble_eq_true rfl) dX7_leastMissing_33 ?_
    refine r_iload (j := 0) rfl dX7_leastMissing_35 ?_
    refine r_iflt (x := r7) (tgt := 61) (by decide) dX7_leastMissing_37 (fun hc => ?_) (fun hc => ?_)
    · replace hf := hf.1 hc
      exact r_sub [1, 2, 3, 4, 5] rfl (b_X7_leastMissing_61 hX13 hf)
    · replace hf := hf.2 hc
      refine r_iload (j := 0) rfl dX7_leastMissing_40 ?_
      refine r_aload_n (j := 1) rfl rfl dX7_leastMissing_42 ?_
      obtain ⟨fs_x8, x8, ha_x8, hv_x8, hf⟩ := hf
      refine r_get (Cn := RX7) (Tt := TX7) (N := 5) (n := 3) rfl uw_X7 (Nat.le_of_ble_eq_true rfl) wd_1_160 ha_x8 hv_x8 dX7_leastMissing_43 ?_
      obtain ⟨t_x9, N_x9, f_x9, ha_x9, hf⟩ := hf
      refine r_alen ha_x9 dX7_leastMissing_46 ?_
      generalize nI N_x9 = x9 at hf ⊢
      refine r_icmpge (x := r7) (y := x9) (tgt := 61) (by decide) dX7_leastMissing_47 (fun hc => ?_) (fun hc => ?_)
      · replace hf := hf.1 hc
        exact r_sub [1, 2, 3, 4, 5] rfl (b_X7_leastMissing_61 hX13 hf)
      · replace hf := hf.2 hc
        refine r_aload_n (j := 1) rfl rfl dX7_leastMissing_50 ?_
        obtain ⟨fs_x10, x10, ha_x10, hv_x10, hf⟩ := hf
        refine r_get (Cn := RX7) (Tt := TX7) (N := 5) (n := 3) rfl uw_X7 (Nat.le_of_ble_eq_true rfl) wd_1_160 ha_x10 hv_x10 dX7_leastMissing_51 ?_
        refine r_iload (j := 0) rfl dX7_leastMissing_54 ?_
        refine r_aload_n (j := 1) rfl rfl dX7_leastMissing_56 ?_
        obtain ⟨fs_x11, x11, ha_x11, hv_x11, hf⟩ := hf
        refine r_get (Cn := RX7) (Tt := TX7) (N := 5) (n := 4) rfl uw_X7 (Nat.le_of_ble_eq_true rfl) wd_1_161 ha_x11 hv_x11 dX7_leastMissing_57 ?_
        obtain ⟨N_x13, f_x13, ha_x13, hi_x13, hf⟩ := hf
        generalize hσ12 : hset σ6 x10 (iA N_x13 (up_ f_x13 (r7 : Int32).toNatClampNeg x11)) = σ12 at hf
        refine r_iast (f := f_x13) (x := x11) ha_x13 hi_x13 dX7_leastMissing_60 ?_
        refine Eq.mpr (congrArg (fun z => Wd _ _ _ _ _ _ _ _ _ _ _ z _ _ _) hσ12) ?_
        exact r_sub [1, 2, 3, 4, 5] rfl (b_X7_leastMissing_61 hX13 hf)
def Z_X7_leastMissing_13 (l : Launch) (G : GG) (d : Nat) (K : Int32 → Hp → Prop) : Nat → Nat → Nat → Int32 → Int32 → Int32 → Hp → Prop
  | 0 => fun _ _ _ _ _ _ => False
  | n + 1 => fun v0 v1 v2 v3 v4 σ => F_X7_leastMissing_13 l G d (Z_X7_leastMissing_13 l G d K n) v0 v1 v2 v3 v4 σ K
theorem z_X7_leastMissing_13 {l : Launch} {G : GG} {d : Nat} {K : Int32 → Hp → Prop} : ∀ (n : Nat) v0 v1 v2 v3 v4 σ, Z_X7_leastMissing_13 l G d K n v0 v1 v2 v3 v4 σ → Wd l G (d + 1) "CoinsLaid$Rows" yX7_leastMissing cX7_leastMissing 6 (some FieldType.int) 13 [(0, aR (some v0)), (1, aR (some v1)), (2, aI v2), (3, aI v3), (4, aI v4)] [] σ 0 0 (xM (QI K)) := by
  intro n
  induction n with
  | zero => intro v0 v1 v2 v3 v4 σ hf; exact hf.elim
  | succ n ih => intro v0 v1 v2 v3 v4 σ hf; exact b_X7_leastMissing_13 ih hf
def F_X7_leastMissing (l : Launch) (G : GG) (d : Nat) (v0 : Nat) (v1 : Nat) (v2 : Int32) (v3 : Int32) (σ : Hp) (K : Int32 → Hp → Prop) : Prop :=
  fI σ v0 7 4 fun x14 =>
  pF σ v0 7 4 (aI (x14 + 1)) fun σ15 =>
  ∃ n, Z_X7_leastMissing_13 l G d K n v0 v1 v2 v3 0 σ15
set_option maxRecDepth 100000 in
set_option maxHeartbeats 4000000 in
theorem b_X7_leastMissing_0 {l : Launch} {G : GG} {d : Nat} {v0 : Nat} {v1 : Nat} {v2 : Int32} {v3 : Int32} {σ : Hp} {K : Int32 → Hp → Prop} (hf : F_X7_leastMissing l G d v0 v1 v2 v3 σ K) : Wd l G (d + 1) "CoinsLaid$Rows" yX7_leastMissing cX7_leastMissing 6 (some FieldType.int) 0 [(0, aR (some v0)), (1, aR (some v1)), (2, aI v2), (3, aI v3)] [] σ 0 0 (xM (QI K)) := by
  unfold F_X7_leastMissing at hf
  refine r_aload_n (j := 0) rfl rfl dX7_leastMissing_0 ?_
  refine r_dup rfl dX7_leastMissing_1 ?_
  obtain ⟨fs_x14, x14, ha_x14, hv_x14, hf⟩ := hf
  refine r_get (Cn := RX7) (Tt := TX7) (N := 5) (n := 4) rfl uw_X7 (Nat.le_of_ble_eq_true rfl) wd_1_161 ha_x14 hv_x14 dX7_leastMissing_2 ?_
  refine r_iconst (v := 1) (by decide) dX7_leastMissing_5 ?_
  refine r_iadd (x := x14) (y := 1) dX7_leastMissing_6 ?_
  obtain ⟨fs_x16, ha_x16, hf⟩ := hf
  generalize hσ15 : hset σ v0 (.inl (7, fs_x16.set 4 (aI (x14 + 1)))) = σ15 at hf
  refine r_put (Cn := RX7) (Tt := TX7) (N := 5) (n := 4) (v := aI (x14 + 1)) rfl uw_X7 (Nat.le_of_ble_eq_true rfl) wd_1_161 ha_x16 (ty0 := tyX7) tyX7_ok nmX7 rfl (fo_I (x14 + 1)) dX7_leastMissing_7 ?_
  rw [hσ15]
  refine r_iconst (v := 0) (by decide) dX7_leastMissing_10 ?_
  refine r_istore (L' := [(4, aI 0), (0, aR (some v0)), (1, aR (some v1)), (2, aI v2), (3, aI v3)]) rfl (Nat.le_of_ble_eq_true rfl) dX7_leastMissing_11 ?_
  obtain ⟨n, hf⟩ := hf
  exact r_sub [1, 2, 3, 4, 0] rfl (z_X7_leastMissing_13 n _ _ _ _ _ _ hf)
theorem m_X7_leastMissing {l : Launch} {G : GG} {d : Nat} {v0 : Nat} {v1 : Nat} {v2 : Int32} {v3 : Int32} {σ : Hp} {K : Int32 → Hp → Prop} (hr : rv σ v0 7) (hf : F_X7_leastMissing l G d v0 v1 v2 v3 σ K) : C_X7_leastMissing l G (d + 1) v0 v1 v2 v3 σ K := ⟨hr, Sp.of (by decide) (Nat.le_of_ble_eq_true rfl) (b_X7_leastMissing_0 hf) rfl⟩
def F_X7_behind_20 (l : Launch) (G : GG) (d : Nat) (σ : Hp) (K : Int32 → Hp → Prop) : Prop :=
  K 0 σ
set_option maxRecDepth 100000 in
set_option maxHeartbeats 4000000 in
theorem b_X7_behind_20 {l : Launch} {G : GG} {d : Nat} {σ : Hp} {K : Int32 → Hp → Prop} (hf : F_X7_behind_20 l G d  σ K) : Wd l G (d + 1) "CoinsLaid$Rows" yX7_behind cX7_behind 3 (some FieldType.int) 20 [] [] σ 0 0 (xM (QI K)) := by
  unfold F_X7_behind_20 at hf
  refine r_iconst (v := 0) (by decide) dX7_behind_20 ?_
  exact r_ireturn rfl dX7_behind_21 rfl ⟨_, rfl, hf⟩
def F_X7_behind (l : Launch) (G : GG) (d : Nat) (v0 : Nat) (v1 : Int32) (v2 : Int32) (σ : Hp) (K : Int32 → Hp → Prop) : Prop :=
  ((v1 : Int32) < 0 →
    F_X7_behind_20 l G d σ K) ∧
  (¬ (v1 : Int32) < 0 →
    aL σ v0 fun x1 =>
    ((x1 : Int32) ≤ (v1 : Int32) →
      F_X7_behind_20 l G d σ K) ∧
    (¬ (x1 : Int32) ≤ (v1 : Int32) →
      ((v2 : Int32) < 0 →
        F_X7_behind_20 l G d σ K) ∧
      (¬ (v2 : Int32) < 0 →
        aL σ v0 fun x2 =>
        ((v2 : Int32) < (x2 : Int32) →
          gI σ v0 v1 fun x3 =>
          gI σ v0 v2 fun x4 =>
          K (x3 ^^^ x4) σ) ∧
        (¬ (v2 : Int32) < (x2 : Int32) →
          F_X7_behind_20 l G d σ K))))
set_option maxRecDepth 100000 in
set_option maxHeartbeats 4000000 in
theorem b_X7_behind_0 {l : Launch} {G : GG} {d : Nat} {v0 : Nat} {v1 : Int32} {v2 : Int32} {σ : Hp} {K : Int32 → Hp → Prop} (hf : F_X7_behind l G d v0 v1 v2 σ K) : Wd l G (d + 1) "CoinsLaid$Rows" yX7_behind cX7_behind 3 (some FieldType.int) 0 [(0, aR (some v0)), (1, aI v1), (2, aI v2)] [] σ 0 0 (xM (QI K)) := by
  unfold F_X7_behind at hf
  refine r_iload_n (j := 1) rfl rfl dX7_behind_0 ?_
  refine r_iflt (x := v1) (tgt := 20) (by decide) dX7_behind_1 (fun hc => ?_) (fun hc => ?_)
  · replace hf := hf.1 hc
    exact r_sub [] rfl (b_X7_behind_20 hf)
  · replace hf := hf.2 hc
    refine r_iload_n (j := 1) rfl rfl dX7_behind_4 ?_
    refine r_aload_n (j := 0) rfl rfl dX7_behind_5 ?_
    obtain ⟨t_x1, N_x1, f_x1, ha_x1, hf⟩ := hf
    refine r_alen ha_x1 dX7_behind_6 ?_
    generalize nI N_x1 = x1 at hf ⊢
    refine r_icmpge (x := v1) (y := x1) (tgt := 20) (by decide) dX7_behind_7 (fun hc => ?_) (fun hc => ?_)
    · replace hf := hf.1 hc
      exact r_sub [] rfl (b_X7_behind_20 hf)
    · replace hf := hf.2 hc
      refine r_iload_n (j := 2) rfl rfl dX7_behind_10 ?_
      refine r_iflt (x := v2) (tgt := 20) (by decide) dX7_behind_11 (fun hc => ?_) (fun hc => ?_)
      · replace hf := hf.1 hc
        exact r_sub [] rfl (b_X7_behind_20 hf)
      · replace hf := hf.2 hc
        refine r_iload_n (j := 2) rfl rfl dX7_behind_14 ?_
        refine r_aload_n (j := 0) rfl rfl dX7_behind_15 ?_
        obtain ⟨t_x2, N_x2, f_x2, ha_x2, hf⟩ := hf
        refine r_alen ha_x2 dX7_behind_16 ?_
        generalize nI N_x2 = x2 at hf ⊢
        refine r_icmplt (x := v2) (y := x2) (tgt := 22) (by decide) dX7_behind_17 (fun hc => ?_) (fun hc => ?_)
        · replace hf := hf.1 hc
          refine r_aload_n (j := 0) rfl rfl dX7_behind_22 ?_
          refine r_iload_n (j := 1) rfl rfl dX7_behind_23 ?_
          obtain ⟨N_x3, f_x3, ha_x3, hi_x3, hf⟩ := hf
          refine r_iald ha_x3 hi_x3 dX7_behind_24 ?_
          generalize f_x3 (v1 : Int32).toNatClampNeg = x3 at hf ⊢
          refine r_aload_n (j := 0) rfl rfl dX7_behind_25 ?_
          refine r_iload_n (j := 2) rfl rfl dX7_behind_26 ?_
          obtain ⟨N_x4, f_x4, ha_x4, hi_x4, hf⟩ := hf
          refine r_iald ha_x4 hi_x4 dX7_behind_27 ?_
          generalize f_x4 (v2 : Int32).toNatClampNeg = x4 at hf ⊢
          refine r_ixor (x := x3) (y := x4) dX7_behind_28 ?_
          exact r_ireturn rfl dX7_behind_29 rfl ⟨_, rfl, hf⟩
        · replace hf := hf.2 hc
          exact r_sub [] rfl (b_X7_behind_20 hf)
theorem m_X7_behind {l : Launch} {G : GG} {d : Nat} {v0 : Nat} {v1 : Int32} {v2 : Int32} {σ : Hp} {K : Int32 → Hp → Prop} (hf : F_X7_behind l G d v0 v1 v2 σ K) : C_X7_behind l G (d + 1) v0 v1 v2 σ K := Sp.of (by decide) (Nat.le_of_ble_eq_true rfl) (b_X7_behind_0 hf) rfl
def F_X7_firstMaking_10 (l : Launch) (G : GG) (d : Nat) (X10 : Int32 → Int32 → Int32 → Nat → Int32 → Hp → Prop) (v1 : Int32) (v2 : Int32) (v3 : Int32) (v4 : Nat) (v5 : Int32) (σ : Hp) (K : Int32 → Hp → Prop) : Prop :=
  (((v1 - v2) : Int32) < (v5 : Int32) →
    K (-2) σ) ∧
  (¬ ((v1 - v2) : Int32) < (v5 : Int32) →
    C_X7_behind l G d v4 v5 ((v1 - v2) - v5) σ fun r2 σ1 =>
    (¬ (r2 : Int32) = (v3 : Int32) →
      X10 v1 v2 v3 v4 (v5 + 1) σ1) ∧
    ((r2 : Int32) = (v3 : Int32) →
      K v5 σ1))
set_option maxRecDepth 100000 in
set_option maxHeartbeats 4000000 in
theorem b_X7_firstMaking_10 {l : Launch} {G : GG} {d : Nat} {X10 : Int32 → Int32 → Int32 → Nat → Int32 → Hp → Prop} {v1 : Int32} {v2 : Int32} {v3 : Int32} {v4 : Nat} {v5 : Int32} {σ : Hp} {K : Int32 → Hp → Prop} (hX10 : ∀ v1 v2 v3 v4 v5 σ, X10 v1 v2 v3 v4 v5 σ → Wd l G (d + 1) "CoinsLaid$Rows" yX7_firstMaking cX7_firstMaking 6 (some FieldType.int) 10 [(1, aI v1), (2, aI v2), (3, aI v3), (4, aR (some v4)), (5, aI v5)] [] σ 0 0 (xM (QI K))) (hf : F_X7_firstMaking_10 l G d X10 v1 v2 v3 v4 v5 σ K) : Wd l G (d + 1) "CoinsLaid$Rows" yX7_firstMaking cX7_firstMaking 6 (some FieldType.int) 10 [(1, aI v1), (2, aI v2), (3, aI v3), (4, aR (some v4)), (5, aI v5)] [] σ 0 0 (xM (QI K)) := by
  unfold F_X7_firstMaking_10 at hf
  refine r_iload (j := 4) rfl dX7_firstMaking_10 ?_
  refine r_iload_n (j := 0) rfl rfl dX7_firstMaking_12 ?_
  refine r_iload_n (j := 1) rfl rfl dX7_firstMaking_13 ?_
  refine r_isub (x := v1) (y := v2) dX7_firstMaking_14 ?_
  refine r_icmpgt (x := v5) (y := (v1 - v2)) (tgt := 44) (by decide) dX7_firstMaking_15 (fun hc => ?_) (fun hc => ?_)
  · replace hf := hf.1 hc
    refine r_bipush (v := (-2)) (by decide) dX7_firstMaking_44 ?_
    exact r_ireturn rfl dX7_firstMaking_46 rfl ⟨_, rfl, hf⟩
  · replace hf := hf.2 hc
    refine r_aload (j := 3) rfl dX7_firstMaking_18 ?_
    refine r_iload (j := 4) rfl dX7_firstMaking_20 ?_
    refine r_iload_n (j := 0) rfl rfl dX7_firstMaking_22 ?_
    refine r_iload_n (j := 1) rfl rfl dX7_firstMaking_23 ?_
    refine r_isub (x := v1) (y := v2) dX7_firstMaking_24 ?_
    refine r_iload (j := 4) rfl dX7_firstMaking_25 ?_
    refine r_isub (x := (v1 - v2)) (y := v5) dX7_firstMaking_27 ?_
    try unfold C_X7_behind at hf
    refine r_invSI (As := [aR (some v4), aI v5, aI ((v1 - v2) - v5)]) (dz := d) (mz := 0) (sz := 0) rfl wd_5_172 wd_5_173 cf_X7_behind (Nat.le_refl _) (Nat.zero_le _) (Nat.zero_le _) (cat_ok (Nat.le_of_ble_eq_true rfl)) dX7_firstMaking_28 hf (fun r2 σ1 hk => ?_)
    replace hf := hk
    clear hk
    refine r_iload_n (j := 2) rfl rfl dX7_firstMaking_31 ?_
    refine r_icmpne (x := r2) (y := v3) (tgt := 38) (by decide) dX7_firstMaking_32 (fun hc => ?_) (fun hc => ?_)
    · replace hf := hf.1 hc
      refine r_iinc (j := 4) (w := (v5 + 1)) (L' := [(5, aI (v5 + 1)), (1, aI v1), (2, aI v2), (3, aI v3), (4, aR (some v4))]) rfl (by rfl) rfl (Nat.le_of_ble_eq_true rfl) dX7_firstMaking_38 ?_
      refine r_goto (tgt := 10) (by decide) dX7_firstMaking_41 ?_
      exact r_sub [1, 2, 3, 4, 0] rfl (hX10 _ _ _ _ _ _ hf)
    · replace hf := hf.2 hc
      refine r_iload (j := 4) rfl dX7_firstMaking_35 ?_
      exact r_ireturn rfl dX7_firstMaking_37 rfl ⟨_, rfl, hf⟩
def Z_X7_firstMaking_10 (l : Launch) (G : GG) (d : Nat) (K : Int32 → Hp → Prop) : Nat → Int32 → Int32 → Int32 → Nat → Int32 → Hp → Prop
  | 0 => fun _ _ _ _ _ _ => False
  | n + 1 => fun v1 v2 v3 v4 v5 σ => F_X7_firstMaking_10 l G d (Z_X7_firstMaking_10 l G d K n) v1 v2 v3 v4 v5 σ K
theorem z_X7_firstMaking_10 {l : Launch} {G : GG} {d : Nat} {K : Int32 → Hp → Prop} : ∀ (n : Nat) v1 v2 v3 v4 v5 σ, Z_X7_firstMaking_10 l G d K n v1 v2 v3 v4 v5 σ → Wd l G (d + 1) "CoinsLaid$Rows" yX7_firstMaking cX7_firstMaking 6 (some FieldType.int) 10 [(1, aI v1), (2, aI v2), (3, aI v3), (4, aR (some v4)), (5, aI v5)] [] σ 0 0 (xM (QI K)) := by
  intro n
  induction n with
  | zero => intro v1 v2 v3 v4 v5 σ hf; exact hf.elim
  | succ n ih => intro v1 v2 v3 v4 v5 σ hf; exact b_X7_firstMaking_10 ih hf
def F_X7_firstMaking (l : Launch) (G : GG) (d : Nat) (v0 : Nat) (v1 : Int32) (v2 : Int32) (v3 : Int32) (σ : Hp) (K : Int32 → Hp → Prop) : Prop :=
  C_X7_rowOf l G d v0 v2 σ fun r4 σ3 =>
  ∃ n, Z_X7_firstMaking_10 l G d K n v1 v2 v3 r4 0 σ3
set_option maxRecDepth 100000 in
set_option maxHeartbeats 4000000 in
theorem b_X7_firstMaking_0 {l : Launch} {G : GG} {d : Nat} {v0 : Nat} {v1 : Int32} {v2 : Int32} {v3 : Int32} {σ : Hp} {K : Int32 → Hp → Prop} (hf : F_X7_firstMaking l G d v0 v1 v2 v3 σ K) : Wd l G (d + 1) "CoinsLaid$Rows" yX7_firstMaking cX7_firstMaking 6 (some FieldType.int) 0 [(0, aR (some v0)), (1, aI v1), (2, aI v2), (3, aI v3)] [] σ 0 0 (xM (QI K)) := by
  unfold F_X7_firstMaking at hf
  refine r_aload_n (j := 0) rfl rfl dX7_firstMaking_0 ?_
  refine r_iload_n (j := 2) rfl rfl dX7_firstMaking_1 ?_
  try unfold C_X7_rowOf at hf
  obtain ⟨⟨fs_r4, ha_r4⟩, hf⟩ := hf
  refine r_invVN (t := 7) (As := [aI v2]) (dz := d) (mz := 0) (sz := 0) rfl wd_5_163 wd_5_165 wd_p_42 cf_X7_rowOf (Nat.le_refl _) (Nat.zero_le _) (Nat.zero_le _) (cat_ok (Nat.le_of_ble_eq_true rfl)) rfl rfl ha_r4 dX7_firstMaking_2 hf (fun r4 σ3 hk => ?_)
  replace hf := hk
  clear hk
  refine r_astore (L' := [(4, aR (some r4)), (0, aR (some v0)), (1, aI v1), (2, aI v2), (3, aI v3)]) rfl (Nat.le_of_ble_eq_true rfl) dX7_firstMaking_5 ?_
  refine r_iconst (v := 0) (by decide) dX7_firstMaking_7 ?_
  refine r_istore (L' := [(5, aI 0), (4, aR (some r4)), (0, aR (some v0)), (1, aI v1), (2, aI v2), (3, aI v3)]) rfl (Nat.le_of_ble_eq_true rfl) dX7_firstMaking_8 ?_
  obtain ⟨n, hf⟩ := hf
  exact r_sub [3, 4, 5, 1, 0] rfl (z_X7_firstMaking_10 n _ _ _ _ _ _ hf)
theorem m_X7_firstMaking {l : Launch} {G : GG} {d : Nat} {v0 : Nat} {v1 : Int32} {v2 : Int32} {v3 : Int32} {σ : Hp} {K : Int32 → Hp → Prop} (hr : rv σ v0 7) (hf : F_X7_firstMaking l G d v0 v1 v2 v3 σ K) : C_X7_firstMaking l G (d + 1) v0 v1 v2 v3 σ K := ⟨hr, Sp.of (by decide) (Nat.le_of_ble_eq_true rfl) (b_X7_firstMaking_0 hf) rfl⟩
def F_X7_periodOf_2 (l : Launch) (G : GG) (d : Nat) (X2 : Nat → Int32 → Int32 → Hp → Prop) (v0 : Nat) (v1 : Int32) (v2 : Int32) (σ : Hp) (K : Int32 → Hp → Prop) : Prop :=
  ((60 : Int32) < (v2 : Int32) →
    K (-1) σ) ∧
  (¬ (60 : Int32) < (v2 : Int32) →
    C_X7_startOf l G d v0 v1 v2 σ fun r2 σ1 =>
    ((100 : Int32) < (r2 : Int32) →
      X2 v0 v1 (v2 + 1) σ1) ∧
    (¬ (100 : Int32) < (r2 : Int32) →
      K v2 σ1))
set_option maxRecDepth 100000 in
set_option maxHeartbeats 4000000 in
theorem b_X7_periodOf_2 {l : Launch} {G : GG} {d : Nat} {X2 : Nat → Int32 → Int32 → Hp → Prop} {v0 : Nat} {v1 : Int32} {v2 : Int32} {σ : Hp} {K : Int32 → Hp → Prop} (hX2 : ∀ v0 v1 v2 σ, X2 v0 v1 v2 σ → Wd l G (d + 1) "CoinsLaid$Rows" yX7_periodOf cX7_periodOf 3 (some FieldType.int) 2 [(0, aR (some v0)), (1, aI v1), (2, aI v2)] [] σ 0 0 (xM (QI K))) (hf : F_X7_periodOf_2 l G d X2 v0 v1 v2 σ K) : Wd l G (d + 1) "CoinsLaid$Rows" yX7_periodOf cX7_periodOf 3 (some FieldType.int) 2 [(0, aR (some v0)), (1, aI v1), (2, aI v2)] [] σ 0 0 (xM (QI K)) := by
  unfold F_X7_periodOf_2 at hf
  refine r_iload_n (j := 2) rfl rfl dX7_periodOf_2 ?_
  refine r_bipush (v := 60) (by decide) dX7_periodOf_3 ?_
  refine r_icmpgt (x := v2) (y := 60) (tgt := 27) (by decide) dX7_periodOf_5 (fun hc => ?_) (fun hc => ?_)
  · replace hf := hf.1 hc
    refine r_iconst (v := (-1)) (by decide) dX7_periodOf_27 ?_
    exact r_ireturn rfl dX7_periodOf_28 rfl ⟨_, rfl, hf⟩
  · replace hf := hf.2 hc
    refine r_aload_n (j := 0) rfl rfl dX7_periodOf_8 ?_
    refine r_iload_n (j := 1) rfl rfl dX7_periodOf_9 ?_
    refine r_iload_n (j := 2) rfl rfl dX7_periodOf_10 ?_
    try unfold C_X7_startOf at hf
    obtain ⟨⟨fs_r2, ha_r2⟩, hf⟩ := hf
    refine r_invVI (t := 7) (As := [aI v1, aI v2]) (dz := d) (mz := 0) (sz := 0) rfl wd_5_195 wd_5_196 wd_5_197 cf_X7_startOf (Nat.le_refl _) (Nat.zero_le _) (Nat.zero_le _) (cat_ok (Nat.le_of_ble_eq_true rfl)) rfl rfl ha_r2 dX7_periodOf_11 hf (fun r2 σ1 hk => ?_)
    replace hf := hk
    clear hk
    refine r_bipush (v := 100) (by decide) dX7_periodOf_14 ?_
    refine r_icmpgt (x := r2) (y := 100) (tgt := 21) (by decide) dX7_periodOf_16 (fun hc => ?_) (fun hc => ?_)
    · replace hf := hf.1 hc
      refine r_iinc (j := 2) (w := (v2 + 1)) (L' := [(2, aI (v2 + 1)), (0, aR (some v0)), (1, aI v1)]) rfl (by rfl) rfl (Nat.le_of_ble_eq_true rfl) dX7_periodOf_21 ?_
      refine r_goto (tgt := 2) (by decide) dX7_periodOf_24 ?_
      exact r_sub [1, 2, 0] rfl (hX2 _ _ _ _ hf)
    · replace hf := hf.2 hc
      refine r_iload_n (j := 2) rfl rfl dX7_periodOf_19 ?_
      exact r_ireturn rfl dX7_periodOf_20 rfl ⟨_, rfl, hf⟩
def Z_X7_periodOf_2 (l : Launch) (G : GG) (d : Nat) (K : Int32 → Hp → Prop) : Nat → Nat → Int32 → Int32 → Hp → Prop
  | 0 => fun _ _ _ _ => False
  | n + 1 => fun v0 v1 v2 σ => F_X7_periodOf_2 l G d (Z_X7_periodOf_2 l G d K n) v0 v1 v2 σ K
theorem z_X7_periodOf_2 {l : Launch} {G : GG} {d : Nat} {K : Int32 → Hp → Prop} : ∀ (n : Nat) v0 v1 v2 σ, Z_X7_periodOf_2 l G d K n v0 v1 v2 σ → Wd l G (d + 1) "CoinsLaid$Rows" yX7_periodOf cX7_periodOf 3 (some FieldType.int) 2 [(0, aR (some v0)), (1, aI v1), (2, aI v2)] [] σ 0 0 (xM (QI K)) := by
  intro n
  induction n with
  | zero => intro v0 v1 v2 σ hf; exact hf.elim
  | succ n ih => intro v0 v1 v2 σ hf; exact b_X7_periodOf_2 ih hf
def F_X7_periodOf (l : Launch) (G : GG) (d : Nat) (v0 : Nat) (v1 : Int32) (σ : Hp) (K : Int32 → Hp → Prop) : Prop :=
  ∃ n, Z_X7_periodOf_2 l G d K n v0 v1 1 σ
set_option maxRecDepth 100000 in
set_option maxHeartbeats 4000000 in
theorem b_X7_periodOf_0 {l : Launch} {G : GG} {d : Nat} {v0 : Nat} {v1 : Int32} {σ : Hp} {K : Int32 → Hp → Prop} (hf : F_X7_periodOf l G d v0 v1 σ K) : Wd l G (d + 1) "CoinsLaid$Rows" yX7_periodOf cX7_periodOf 3 (some FieldType.int) 0 [(0, aR (some v0)), (1, aI v1)] [] σ 0 0 (xM (QI K)) := by
  unfold F_X7_periodOf at hf
  refine r_iconst (v := 1) (by decide) dX7_periodOf_0 ?_
  refine r_istore_n (L' := [(2, aI 1), (0, aR (some v0)), (1, aI v1)]) rfl rfl (Nat.le_of_ble_eq_true rfl) dX7_periodOf_1 ?_
  obtain ⟨n, hf⟩ := hf
  exact r_sub [1, 2, 0] rfl (z_X7_periodOf_2 n _ _ _ _ hf)
theorem m_X7_periodOf {l : Launch} {G : GG} {d : Nat} {v0 : Nat} {v1 : Int32} {σ : Hp} {K : Int32 → Hp → Prop} (hr : rv σ v0 7) (hf : F_X7_periodOf l G d v0 v1 σ K) : C_X7_periodOf l G (d + 1) v0 v1 σ K := ⟨hr, Sp.of (by decide) (Nat.le_of_ble_eq_true rfl) (b_X7_periodOf_0 hf) rfl⟩
def F_X7_startOf_40 (l : Launch) (G : GG) (d : Nat) (X12 : Int32 → Nat → Int32 → Int32 → Hp → Prop) (v2 : Int32) (v3 : Nat) (v4 : Int32) (v5 : Int32) (σ : Hp) (K : Int32 → Hp → Prop) : Prop :=
  X12 v2 v3 v4 (v5 + 1) σ
set_option maxRecDepth 100000 in
set_option maxHeartbeats 4000000 in
theorem b_X7_startOf_40 {l : Launch} {G : GG} {d : Nat} {X12 : Int32 → Nat → Int32 → Int32 → Hp → Prop} {v2 : Int32} {v3 : Nat} {v4 : Int32} {v5 : Int32} {σ : Hp} {K : Int32 → Hp → Prop} (hX12 : ∀ v2 v3 v4 v5 σ, X12 v2 v3 v4 v5 σ → Wd l G (d + 1) "CoinsLaid$Rows" yX7_startOf cX7_startOf 6 (some FieldType.int) 12 [(2, aI v2), (3, aR (some v3)), (4, aI v4), (5, aI v5)] [] σ 0 0 (xM (QI K))) (hf : F_X7_startOf_40 l G d X12 v2 v3 v4 v5 σ K) : Wd l G (d + 1) "CoinsLaid$Rows" yX7_startOf cX7_startOf 6 (some FieldType.int) 40 [(2, aI v2), (3, aR (some v3)), (4, aI v4), (5, aI v5)] [] σ 0 0 (xM (QI K)) := by
  unfold F_X7_startOf_40 at hf
  refine r_iinc (j := 3) (w := (v5 + 1)) (L' := [(5, aI (v5 + 1)), (2, aI v2), (3, aR (some v3)), (4, aI v4)]) rfl (by rfl) rfl (Nat.le_of_ble_eq_true rfl) dX7_startOf_40 ?_
  refine r_goto (tgt := 12) (by decide) dX7_startOf_43 ?_
  exact r_sub [1, 2, 3, 0] rfl (hX12 _ _ _ _ _ hf)
def F_X7_startOf_12 (l : Launch) (G : GG) (d : Nat) (X12 : Int32 → Nat → Int32 → Int32 → Hp → Prop) (v2 : Int32) (v3 : Nat) (v4 : Int32) (v5 : Int32) (σ : Hp) (K : Int32 → Hp → Prop) : Prop :=
  aL σ v3 fun x1 =>
  ((x1 : Int32) ≤ ((v5 + v2) : Int32) →
    K v4 σ) ∧
  (¬ (x1 : Int32) ≤ ((v5 + v2) : Int32) →
    C_X7_behind l G d v3 v5 (v5 + v2) σ fun r3 σ2 =>
    ((r3 : Int32) = 0 →
      F_X7_startOf_40 l G d X12 v2 v3 v4 v5 σ2 K) ∧
    (¬ (r3 : Int32) = 0 →
      F_X7_startOf_40 l G d X12 v2 v3 (v5 + 1) v5 σ2 K))
set_option maxRecDepth 100000 in
set_option maxHeartbeats 4000000 in
theorem b_X7_startOf_12 {l : Launch} {G : GG} {d : Nat} {X12 : Int32 → Nat → Int32 → Int32 → Hp → Prop} {v2 : Int32} {v3 : Nat} {v4 : Int32} {v5 : Int32} {σ : Hp} {K : Int32 → Hp → Prop} (hX12 : ∀ v2 v3 v4 v5 σ, X12 v2 v3 v4 v5 σ → Wd l G (d + 1) "CoinsLaid$Rows" yX7_startOf cX7_startOf 6 (some FieldType.int) 12 [(2, aI v2), (3, aR (some v3)), (4, aI v4), (5, aI v5)] [] σ 0 0 (xM (QI K))) (hf : F_X7_startOf_12 l G d X12 v2 v3 v4 v5 σ K) : Wd l G (d + 1) "CoinsLaid$Rows" yX7_startOf cX7_startOf 6 (some FieldType.int) 12 [(2, aI v2), (3, aR (some v3)), (4, aI v4), (5, aI v5)] [] σ 0 0 (xM (QI K)) := by
  unfold F_X7_startOf_12 at hf
  refine r_iload (j := 3) rfl dX7_startOf_12 ?_
  refine r_iload_n (j := 0) rfl rfl dX7_startOf_14 ?_
  refine r_iadd (x := v5) (y := v2) dX7_startOf_15 ?_
  refine r_aload_n (j := 1) rfl rfl dX7_startOf_16 ?_
  obtain ⟨t_x1, N_x1, f_x1, ha_x1, hf⟩ := hf
  refine r_alen ha_x1 dX7_startOf_17 ?_
  generalize nI N_x1 = x1 at hf ⊢
  refine r_icmpge (x := (v5 + v2)) (y := x1) (tgt := 46) (by decide) dX7_startOf_18 (fun hc => ?_) (fun hc => ?_)
  · replace hf := hf.1 hc
    refine r_iload (j := 2) rfl dX7_startOf_46 ?_
    exact r_ireturn rfl dX7_startOf_48 rfl ⟨_, rfl, hf⟩
  · replace hf := hf.2 hc
    refine r_aload_n (j := 1) rfl rfl dX7_startOf_21 ?_
    refine r_iload (j := 3) rfl dX7_startOf_22 ?_
    refine r_iload (j := 3) rfl dX7_startOf_24 ?_
    refine r_iload_n (j := 0) rfl rfl dX7_startOf_26 ?_
    refine r_iadd (x := v5) (y := v2) dX7_startOf_27 ?_
    try unfold C_X7_behind at hf
    refine r_invSI (As := [aR (some v3), aI v5, aI (v5 + v2)]) (dz := d) (mz := 0) (sz := 0) rfl wd_5_172 wd_5_173 cf_X7_behind (Nat.le_refl _) (Nat.zero_le _) (Nat.zero_le _) (cat_ok (Nat.le_of_ble_eq_true rfl)) dX7_startOf_28 hf (fun r3 σ2 hk => ?_)
    replace hf := hk
    clear hk
    refine r_ifeq (x := r3) (tgt := 40) (by decide) dX7_startOf_31 (fun hc => ?_) (fun hc => ?_)
    · replace hf := hf.1 hc
      exact r_sub [0, 1, 2, 3] rfl (b_X7_startOf_40 hX12 hf)
    · replace hf := hf.2 hc
      refine r_iload (j := 3) rfl dX7_startOf_34 ?_
      refine r_iconst (v := 1) (by decide) dX7_startOf_36 ?_
      refine r_iadd (x := v5) (y := 1) dX7_startOf_37 ?_
      refine r_istore (L' := [(4, aI (v5 + 1)), (2, aI v2), (3, aR (some v3)), (5, aI v5)]) rfl (Nat.le_of_ble_eq_true rfl) dX7_startOf_38 ?_
      exact r_sub [1, 2, 0, 3] rfl (b_X7_startOf_40 hX12 hf)
def Z_X7_startOf_12 (l : Launch) (G : GG) (d : Nat) (K : Int32 → Hp → Prop) : Nat → Int32 → Nat → Int32 → Int32 → Hp → Prop
  | 0 => fun _ _ _ _ _ => False
  | n + 1 => fun v2 v3 v4 v5 σ => F_X7_startOf_12 l G d (Z_X7_startOf_12 l G d K n) v2 v3 v4 v5 σ K
theorem z_X7_startOf_12 {l : Launch} {G : GG} {d : Nat} {K : Int32 → Hp → Prop} : ∀ (n : Nat) v2 v3 v4 v5 σ, Z_X7_startOf_12 l G d K n v2 v3 v4 v5 σ → Wd l G (d + 1) "CoinsLaid$Rows" yX7_startOf cX7_startOf 6 (some FieldType.int) 12 [(2, aI v2), (3, aR (some v3)), (4, aI v4), (5, aI v5)] [] σ 0 0 (xM (QI K)) := by
  intro n
  induction n with
  | zero => intro v2 v3 v4 v5 σ hf; exact hf.elim
  | succ n ih => intro v2 v3 v4 v5 σ hf; exact b_X7_startOf_12 ih hf
def F_X7_startOf (l : Launch) (G : GG) (d : Nat) (v0 : Nat) (v1 : Int32) (v2 : Int32) (σ : Hp) (K : Int32 → Hp → Prop) : Prop :=
  C_X7_rowOf l G d v0 v1 σ fun r5 σ4 =>
  ∃ n, Z_X7_startOf_12 l G d K n v2 r5 0 0 σ4
set_option maxRecDepth 100000 in
set_option maxHeartbeats 4000000 in
theorem b_X7_startOf_0 {l : Launch} {G : GG} {d : Nat} {v0 : Nat} {v1 : Int32} {v2 : Int32} {σ : Hp} {K : Int32 → Hp → Prop} (hf : F_X7_startOf l G d v0 v1 v2 σ K) : Wd l G (d + 1) "CoinsLaid$Rows" yX7_startOf cX7_startOf 6 (some FieldType.int) 0 [(0, aR (some v0)), (1, aI v1), (2, aI v2)] [] σ 0 0 (xM (QI K)) := by
  unfold F_X7_startOf at hf
  refine r_aload_n (j := 0) rfl rfl dX7_startOf_0 ?_
  refine r_iload_n (j := 1) rfl rfl dX7_startOf_1 ?_
  try unfold C_X7_rowOf at hf
  obtain ⟨⟨fs_r5, ha_r5⟩, hf⟩ := hf
  refine r_invVN (t := 7) (As := [aI v1]) (dz := d) (mz := 0) (sz := 0) rfl wd_5_163 wd_5_165 wd_p_42 cf_X7_rowOf (Nat.le_refl _) (Nat.zero_le _) (Nat.zero_le _) (cat_ok (Nat.le_of_ble_eq_true rfl)) rfl rfl ha_r5 dX7_startOf_2 hf (fun r5 σ4 hk => ?_)
  replace hf := hk
  clear hk
  refine r_astore_n (L' := [(3, aR (some r5)), (0, aR (some v0)), (1, aI v1), (2, aI v2)]) rfl rfl (Nat.le_of_ble_eq_true rfl) dX7_startOf_5 ?_
  refine r_iconst (v := 0) (by decide) dX7_startOf_6 ?_
  refine r_istore (L' := [(4, aI 0), (3, aR (some r5)), (0, aR (some v0)), (1, aI v1), (2, aI v2)]) rfl (Nat.le_of_ble_eq_true rfl) dX7_startOf_7 ?_
  refine r_iconst (v := 0) (by decide) dX7_startOf_9 ?_
  refine r_istore (L' := [(5, aI 0), (4, aI 0), (3, aR (some r5)), (0, aR (some v0)), (1, aI v1), (2, aI v2)]) rfl (Nat.le_of_ble_eq_true rfl) dX7_startOf_10 ?_
  obtain ⟨n, hf⟩ := hf
  exact r_sub [5, 2, 1, 0] rfl (z_X7_startOf_12 n _ _ _ _ _ hf)
theorem m_X7_startOf {l : Launch} {G : GG} {d : Nat} {v0 : Nat} {v1 : Int32} {v2 : Int32} {σ : Hp} {K : Int32 → Hp → Prop} (hr : rv σ v0 7) (hf : F_X7_startOf l G d v0 v1 v2 σ K) : C_X7_startOf l G (d + 1) v0 v1 v2 σ K := ⟨hr, Sp.of (by decide) (Nat.le_of_ble_eq_true rfl) (b_X7_startOf_0 hf) rfl⟩
