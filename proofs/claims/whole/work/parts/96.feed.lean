/-! the class: feed -/
theorem byt_u {x : Int32} {s : Nat} (hs : s ≤ 24) : ((x.toUInt32 >>> ((nI s).toUInt32 &&& Int32.toUInt32 31)).toInt32) &&& 255 = nI (x.toBitVec.toNat / 2 ^ s % 256) := by
  apply b_ext
  intro i hi
  rw [b_and, b_255, b_ushr s (by omega) x i, bt_nI hi, show (256 : Nat) = 2 ^ 8 from rfl, Nat.testBit_mod_two_pow, Nat.testBit_div_two_pow, bt_tb, Nat.add_comm i s]
  by_cases h8 : i < 8
  · simp [h8]
  · simp [h8]
section FEED
variable {l : Launch} {G : GG} {d n : Nat} {Z : ST} {N : Nat} {Mo : Nat → Prop} {P : Nat → Nat} {τ : Hp} {C : Nat → CE} {f : Nat → Int32} {a2 a3 a4 : Int32} {a5 a6 a7 a8 a9 a10 a11 : Option Nat}
def fdS (P : Nat → Nat) (C : Nat → CE) (f : Nat → Int32) (n : Nat) (b : Int32) (a2 a3 a4 : Int32) (a5 a6 a7 a8 a9 a10 a11 : Option Nat) : Nat → CE := up_ (up_ C 1 (iA 900 (up_ f n b))) 0 (O11 (some (P 1)) (nI (n + 1)) a2 a3 a4 a5 a6 a7 a8 a9 a10 a11)
theorem ap_step (hB : okB 75 P) (h0 : C 0 = O11 (some (P 1)) (nI n) a2 a3 a4 a5 a6 a7 a8 a9 a10 a11) (h1 : C 1 = iA 900 f) (hn : n < 900) {t : Nat} (ht : t ≤ 24) {v : Int32} {X3 : Nat → Int32 → Int32 → Hp → Prop} {K : Hp → Prop} (hX : X3 (P 0) v (nI t + (-8)) (ch 75 P (fdS P C f n (nI (v.toBitVec.toNat / 2 ^ t % 256)) a2 a3 a4 a5 a6 a7 a8 a9 a10 a11) τ)) : F_X11_append_3 l G d X3 (P 0) v (nI t) (ch 75 P C τ) K := by
  have e01 : (0 : Nat) = 1 ↔ False := by decide
  simp only [F_X11_append_3, F_X11_append_52, fI_c hB, fZ_c hB, fJ_c hB, fR_c hB, fN_c hB, pF_c hB, gI_c hB, gZ_c hB, gJ_c hB, gN_c hB, sI_c hB, sZ_c hB, sJ_c hB, sN_c hB, aL_c hB, Nat.reduceLT, h0, h1, rR11_0, rN11_0, rP11_0, rI11_1, rP11_1, rI11_2, rP11_2, rI11_3, rP11_3, rI11_4, rP11_4, rR11_5, rN11_5, rP11_5, rR11_6, rN11_6, rP11_6, rR11_7, rN11_7, rP11_7, rR11_8, rN11_8, rP11_8, rR11_9, rN11_9, rP11_9, rR11_10, rN11_10, rP11_10, rR11_11, rN11_11, rP11_11, xI_r, xZ_r, xJ_r, xN_r, yI_r, yZ_r, yJ_r, yN_r, cL_i, cL_z, cL_j, cL_r, byt_u ht, nI_clamp (show n < 2 ^ 31 by omega), up_a, e01, if_false, show nI n + 1 = nI (n + 1) from nt_add n 1]
  rw [nt_le (by omega) (by omega)]
  exact ⟨fun hc => absurd hc (nt_neg (by omega)), fun _ => ⟨fun hc => absurd hc (nt_neg (by omega)), fun _ => ⟨fun hc => by omega, fun _ => ⟨(nt_in (by omega)).mpr (by omega), hX⟩⟩⟩⟩
theorem s_X11_append (hB : okB 75 P) (h0 : C 0 = O11 (some (P 1)) (nI n) a2 a3 a4 a5 a6 a7 a8 a9 a10 a11) (h1 : C 1 = iA 900 f) (hn : n + 4 ≤ 900) {v : Int32} {K : Hp → Prop} (hK : ∀ C' f', C' 0 = O11 (some (P 1)) (nI (n + 4)) a2 a3 a4 a5 a6 a7 a8 a9 a10 a11 → C' 1 = iA 900 f' → (∀ j, 1 < j → C' j = C j) → (∀ j, j < n → f' j = f j) → (∀ k, k < 4 → f' (n + k) = nI (v.toBitVec.toNat / 2 ^ (24 - 8 * k) % 256)) → K (ch 75 P C' τ)) : C_X11_append l G (d + 1) (P 0) v (ch 75 P C τ) K := by
  refine m_X11_append (rv_c hB (by decide) (by rw [h0]; exact ⟨_, rfl⟩)) ?_
  simp only [F_X11_append]
  refine ⟨5, ap_step (t := 24) hB h0 h1 (by omega) (by decide) ?_⟩
  have s0 : ∀ (C : Nat → CE) (f : Nat → Int32) (n : Nat) (b : Int32), fdS P C f n b a2 a3 a4 a5 a6 a7 a8 a9 a10 a11 0 = O11 (some (P 1)) (nI (n + 1)) a2 a3 a4 a5 a6 a7 a8 a9 a10 a11 := fun C f n b => up_eq ..
  have s1 : ∀ (C : Nat → CE) (f : Nat → Int32) (n : Nat) (b : Int32), fdS P C f n b a2 a3 a4 a5 a6 a7 a8 a9 a10 a11 1 = iA 900 (up_ f n b) := fun C f n b => (up_ne (by decide)).trans (up_eq ..)
  have s2 : ∀ (C : Nat → CE) (f : Nat → Int32) (n : Nat) (b : Int32) j, 1 < j → fdS P C f n b a2 a3 a4 a5 a6 a7 a8 a9 a10 a11 j = C j := fun C f n b j hj => (up_ne (by omega)).trans (up_ne (by omega))
  refine ap_step (t := 16) hB (s0 ..) (s1 ..) (by omega) (by decide) ?_
  refine ap_step (t := 8) hB (s0 ..) (s1 ..) (by omega) (by decide) ?_
  refine ap_step (t := 0) hB (s0 ..) (s1 ..) (by omega) (by decide) ?_
  simp only [Z_X11_append_3, F_X11_append_3]
  refine ⟨fun _ => hK _ _ (s0 ..) (s1 ..) (fun j hj => ?_) (fun j hj => ?_) fun k hk => ?_, fun hc => absurd (by decide) hc⟩
  · rw [s2 _ _ _ _ j hj, s2 _ _ _ _ j hj, s2 _ _ _ _ j hj, s2 _ _ _ _ j hj]
  · rw [up_ne (by omega), up_ne (by omega), up_ne (by omega), up_ne (by omega)]
  · rcases (show k = 0 ∨ k = 1 ∨ k = 2 ∨ k = 3 by omega) with rfl | rfl | rfl | rfl
    · rw [up_ne (by omega), up_ne (by omega), up_ne (by omega)]; exact up_eq ..
    · rw [up_ne (by omega), up_ne (by omega)]; exact up_eq ..
    · rw [up_ne (by omega)]; exact up_eq ..
    · exact up_eq ..
theorem p_X11_feed (hZ : VZ Z) (hC : CI Z N Mo P τ C) {a b c e g : Int32} {K : Int32 → Hp → Prop} (hK : ∀ C', CI (n_feed Z a b c e g).2 N Mo P τ C' → K (n_feed Z a b c e g).1 (ch 75 P C' τ)) : C_X11_feed l G (d + 30) (P 0) a b c e g (ch 75 P C τ) K := by
  have hCI := hC
  obtain ⟨Q, X, h⟩ := hC
  have hB := h.1
  obtain ⟨fp, h0, h0'⟩ := h.2.2.1
  obtain ⟨f, h1, h1'⟩ := h.2.2.2.1.1
  have h900 := hZ.2.1
  refine m_X11_feed (rv_0 h) ?_
  simp only [F_X11_feed, g_len h]
  unfold n_feed at hK
  rw [show (880 : Int32) = nI 880 from rfl, nt_le (by omega) (by decide)]
  refine ⟨fun e1 => ?_, fun e1 => ?_⟩
  · rw [if_neg (by omega)] at hK
    refine s_X11_append (d := d + 28) hB h0 h1 (by omega) fun C1 f1 a1 b1 c1 d1 e1 => ?_
    refine s_X11_append (d := d + 28) hB a1 b1 (by omega) fun C2 f2 a2 b2 c2 d2 e2 => ?_
    refine s_X11_append (d := d + 28) hB a2 b2 (by omega) fun C3 f3 a3 b3 c3 d3 e3 => ?_
    refine s_X11_append (d := d + 28) hB a3 b3 (by omega) fun C4 f4 a4 b4 c4 d4 e4 => ?_
    refine s_X11_append (d := d + 28) hB a4 b4 (by omega) fun C5 f5 a5 b5 c5 d5 e5 => ?_
    simp only [fI_c hB, fZ_c hB, fJ_c hB, fR_c hB, fN_c hB, pF_c hB, gI_c hB, gZ_c hB, gJ_c hB, gN_c hB, sI_c hB, sZ_c hB, sJ_c hB, sN_c hB, aL_c hB, Nat.reduceLT, a5, rR11_0, rN11_0, rP11_0, rI11_1, rP11_1, rI11_2, rP11_2, rI11_3, rP11_3, rI11_4, rP11_4, rR11_5, rN11_5, rP11_5, rR11_6, rN11_6, rP11_6, rR11_7, rN11_7, rP11_7, rR11_8, rN11_8, rP11_8, rR11_9, rN11_9, rP11_9, rR11_10, rN11_10, rP11_10, rR11_11, rN11_11, rP11_11]
    have hc : ∀ j, 1 < j → C5 j = C j := fun j hj => (c5 j hj).trans ((c4 j hj).trans ((c3 j hj).trans ((c2 j hj).trans (c1 j hj))))
    refine hK C5 ⟨Q, X, hB, h.2.1, ⟨fp, a5, h0'⟩, ⟨⟨f5, b5, fun j hj => ?_⟩, h.2.2.2.1.2.1.ck fun j x y => hc j (by omega), h.2.2.2.1.2.2.1.ck fun j x y => hc j (by omega), h.2.2.2.1.2.2.2.1.cg fun j x y => hc j (by omega), ⟨(hc 57 (by decide)).trans h.2.2.2.1.2.2.2.2.1.1, h.2.2.2.1.2.2.2.2.1.2.ck fun j x y => hc j (by omega)⟩, h.2.2.2.1.2.2.2.2.2.cg fun j x y => hc j (by omega)⟩, h.2.2.2.2.1.cg fun j x y => hc j (by omega), fun T hT => ⟨(h.2.2.2.2.2 T hT).1, (h.2.2.2.2.2 T hT).2.cg fun j x y => hc j (by omega)⟩⟩
    have hj2 : j < zN Z + 20 := hj
    show f5 j = nI (if zN Z ≤ j ∧ j < zN Z + 20 then byt a b c e g (j - zN Z) else zB Z j)
    by_cases hlt : j < zN Z
    · rw [if_neg (by omega), d5 j (by omega), d4 j (by omega), d3 j (by omega), d2 j (by omega), d1 j (by omega)]
      exact h1' j hlt
    · rw [if_pos (by omega)]
      obtain ⟨k, rfl⟩ : ∃ k, j = zN Z + k := ⟨j - zN Z, by omega⟩
      rw [Nat.add_sub_cancel_left]
      unfold byt
      by_cases k4 : k < 4
      · rw [if_pos k4, d5 _ (by omega), d4 _ (by omega), d3 _ (by omega), d2 _ (by omega), e1 k k4, Nat.mod_eq_of_lt k4]
      · rw [if_neg k4]
        by_cases k8 : k < 8
        · rw [if_pos k8, d5 _ (by omega), d4 _ (by omega), d3 _ (by omega)]
          obtain ⟨i, rfl⟩ : ∃ i, k = 4 + i := ⟨k - 4, by omega⟩
          rw [← Nat.add_assoc, e2 i (by omega), Nat.add_mod_left, Nat.mod_eq_of_lt (show i < 4 by omega)]
        · rw [if_neg k8]
          by_cases k12 : k < 12
          · rw [if_pos k12, d5 _ (by omega), d4 _ (by omega)]
            obtain ⟨i, rfl⟩ : ∃ i, k = 4 + (4 + i) := ⟨k - 8, by omega⟩
            rw [← Nat.add_assoc, ← Nat.add_assoc, e3 i (by omega), Nat.add_mod_left, Nat.add_mod_left, Nat.mod_eq_of_lt (show i < 4 by omega)]
          · rw [if_neg k12]
            by_cases k16 : k < 16
            · rw [if_pos k16, d5 _ (by omega)]
              obtain ⟨i, rfl⟩ : ∃ i, k = 4 + (4 + (4 + i)) := ⟨k - 12, by omega⟩
              rw [← Nat.add_assoc, ← Nat.add_assoc, ← Nat.add_assoc, e4 i (by omega), Nat.add_mod_left, Nat.add_mod_left, Nat.add_mod_left, Nat.mod_eq_of_lt (show i < 4 by omega)]
            · rw [if_neg k16]
              obtain ⟨i, rfl⟩ : ∃ i, k = 4 + (4 + (4 + (4 + i))) := ⟨k - 16, by omega⟩
              rw [← Nat.add_assoc, ← Nat.add_assoc, ← Nat.add_assoc, ← Nat.add_assoc, e5 i (by omega), Nat.add_mod_left, Nat.add_mod_left, Nat.add_mod_left, Nat.add_mod_left, Nat.mod_eq_of_lt (show i < 4 by omega)]
  · rw [if_pos (by omega)] at hK
    exact hK C hCI
end FEED
