/-! THE LAW: from its entry to its loop -/
section ZST
variable {l : Launch} {G : GG} {d : Nat} {v0 L : Nat} {xs : Nat → Int32} {σ : Hp}
theorem z_start (hl : l.stackTraces = false) (hL : L ≤ 3072) (h0 : σ v0 = some (sA L xs)) (hE : σ (gE G) = some (rA 6 0 fun _ => none)) : F_L_law l G (d + 40) v0 σ 601024 7293034 (fun b _ => b = true) := by
  refine ⟨by decide, by decide, fun v1 hv1 => ⟨80, 4000, by decide, by decide, ?_⟩⟩
  have ka : ∀ q, σ q ≠ none → hset σ v1 (O11 none 0 0 0 0 none none none none none none none) q = σ q := fun q hq => hset_ne fun e => hq (e ▸ hv1)
  have h1 : hset σ v1 (O11 none 0 0 0 0 none none none none none none none) v1 = some (O11 none 0 0 0 0 none none none none none none none) := hset_eq ..
  have hva : ∀ q, σ q ≠ none → q ≠ v1 := fun q hq e => hq (e ▸ hv1)
  generalize hset σ v1 (.inl (11, [aR none, aI 0, aI 0, aI 0, aI 0, aR none, aR none, aR none, aR none, aR none, aR none, aR none])) = σa at ka h1 ⊢
  refine s_X11_init (d := d + 37) h1 (Nat.le_refl _) (Nat.le_refl _) fun P C σ1 hP hB hG hI hK1 hF1 => ?_
  refine ⟨by decide, by decide, fun m hm => ⟨23, 240000, by decide, by decide, ?_⟩⟩
  have k1 : ∀ q, σ q ≠ none → σ1 q = σ q := fun q hq => (hK1.2 q (by rw [ka q hq]; exact hq) (hva q hq)).trans (ka q hq)
  have o1 : ∀ q, σ q ≠ none → outB 75 P q := fun q hq k hk e => by
    rcases Nat.eq_zero_or_pos k with rfl | hk0
    · exact hva q hq (e.symm.trans hP)
    · have h9 := hF1 k hk0 hk
      rw [e, ka q hq] at h9
      exact hq h9
  have kb : ∀ (c : CE) (q : Nat), σ1 q ≠ none → hset σ1 m c q = σ1 q := fun c q hq => hset_ne fun e => hq (e ▸ hm)
  have hmb : ∀ q, σ1 q ≠ none → q ≠ m := fun q hq e => hq (e ▸ hm)
  refine s_X12_init (d := d + 39) (hset_eq ..) (Nat.le_refl _) (Nat.le_refl _) fun A σ2 hA hmh hK2 hF2 => ?_
  refine ⟨1, rfl, by decide, by decide, by decide, fun v3 hv3 => ⟨512 + 1, ?_⟩⟩
  have k2 : ∀ q, σ1 q ≠ none → σ2 q = σ1 q := fun q hq => (hK2.2 q (by rw [kb _ q hq]; exact hq) (hmb q hq)).trans (kb _ q hq)
  have k3 : ∀ q, σ2 q ≠ none → hset σ2 v3 (jA 1 fun _ => 0) q = σ2 q := fun q hq => hset_ne fun e => hq (e ▸ hv3)
  have n0 : ∀ q, σ q ≠ none → σ1 q ≠ none := fun q hq => by rw [k1 q hq]; exact hq
  have n1 : ∀ q, σ1 q ≠ none → σ2 q ≠ none := fun q hq => by rw [k2 q hq]; exact hq
  have mo : ∀ q, σ1 q ≠ none → ¬ MoA m A q := fun q hq hM => by
    rcases hM with rfl | ⟨k, hk, rfl⟩
    · exact hq hm
    · have h9 := hF2 k hk
      rw [kb _ _ hq] at h9
      exact hq h9
  have gP : ∀ k, k < 75 → σ1 (P k) ≠ none := fun k hk => by rw [hG k hk]; simp
  have a0 : σ v0 ≠ none := by rw [h0]; simp
  have aE : σ (gE G) ≠ none := by rw [hE]; simp
  have m2 : ∀ q, MoA m A q → σ2 q ≠ none := fun q hq => MoA.al hA hmh hq
  refine z_law (d := d) (A := A) (L := L) (xs := xs) hl hL hA (fun σ => rfl) 512 0 ST0 0 P C ms0 _ _ _ hP (by omega) (by decide) VZ_0 ?_ (hI.ci hB) ⟨fun q hq k hk e => ?_, ⟨o1 v0 a0, mo v0 (n0 v0 a0)⟩, ⟨fun k hk e => ?_, fun hM => m2 _ hM hv3⟩, o1 _ aE, mo _ (n0 _ aE)⟩ ⟨?_, ⟨_, hset_eq ..⟩, ?_⟩ ?_ MI_0 (by decide) (by decide) (by decide) (by decide)
  · exact fun k hk => (k3 _ (n1 _ (gP k hk))).trans ((k2 _ (gP k hk)).trans (hG k hk))
  · exact mo _ (gP k hk) (e ▸ hq)
  · exact n1 _ (gP k hk) (e ▸ hv3)
  · exact (k3 _ (n1 _ (n0 _ a0))).trans ((k2 _ (n0 _ a0)).trans ((k1 _ a0).trans h0))
  · exact (k3 _ (n1 _ (n0 _ aE))).trans ((k2 _ (n0 _ aE)).trans ((k1 _ aE).trans hE))
  · exact mh_kp hA hmh fun q hq hn => k3 q hn
end ZST
