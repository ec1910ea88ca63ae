/-! the law's led: what it answers (the class's led may throw) -/
section LED
variable {l : Launch} {G : GG} {d : Nat} {Z : ST} {N : Nat} {Mo : Nat → Prop} {P : Nat → Nat} {τ : Hp} {C : Nat → CE}
theorem p_L_led (hl : l.stackTraces = false) (hZ : VZ Z) (hC : CI Z N Mo P τ C) {v : Int32} {out : Nat} {f : Nat → Int64} (hout : ch 75 P C τ out = some (jA 1 f)) {K : Int32 → Hp → Prop} (hK0 : q_led Z v = none → K 1 (ch 75 P C τ)) (hK1 : ∀ n, q_led Z v = some n → K 0 (hset (ch 75 P C τ) out (jA 1 (up_ f 0 (nI n).toInt64)))) : C_L_led l G (d + 30) (P 0) v out (ch 75 P C τ) K := by
  sorry
end LED
