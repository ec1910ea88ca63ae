/-! THE TEXT read: what a text comes to -/
abbrev PR : Type := (Nat × Nat) ⊕ (Nat × TB × List Nat)
def ck (c : Bool) (f a : Nat) (k : PR) : PR := if c then k else .inl (f, a)
def kwT : List Nat := [116, 97, 98, 108, 101]
def kwLo : List Nat := [108, 111, 115, 101, 115]
def kwWi : List Nat := [119, 105, 110, 115]
def kwAp : List Nat := [97, 112, 97, 114, 116]
def kwBo : List Nat := [98, 111, 97, 114, 100]
def kwJu : List Nat := [106, 117, 103]
def kwPi : List Nat := [112, 105, 101, 99, 101]
def kwLa : List Nat := [108, 97, 121]
def kwWd : List Nat := [119, 105, 100, 101]
def kwHi : List Nat := [104, 105, 103, 104]
def kwCo : List Nat := [99, 111, 105, 110]
def kwBl : List Nat := [98, 108, 111, 99, 107]
def kwCr : List Nat := [99, 111, 114, 110, 101, 114]
def kwTu : List Nat := [116, 117, 114, 110, 115]
def kwFi : List Nat := [102, 105, 114, 115, 116]
def kwSe : List Nat := [115, 101, 99, 111, 110, 100]
/-- a WHOLE within bounds at a -/
def ckN (B : Nat → Nat) (N a lo hi : Nat) (k : PR) : PR := ck (decide (eK B N a = 3)) 1 a (ck (decide (lo ≤ tV B N a ∧ tV B N a ≤ hi)) 4 a k)
def ckW (B : Nat → Nat) (N a : Nat) (w : List Nat) (k : PR) : PR := ck (isW B N a w) 1 a k
def ckNm (B : Nat → Nat) (N a : Nat) (T : TB) (k : PR) : PR := ck (nmOK B N a) 1 a (ck (findN T (tw B N a) 7 0).isNone 3 a k)
section PSP
variable (B : Nat → Nat) (N : Nat)
def tabE (a : Nat) (w : Bool) (T : TB) (ls : List Nat) : PR := if isW B N a kwAp then .inr (nx B N a, ((true, w, true), T.2), ls) else .inr (a, ((true, w, false), T.2), ls)
def tabL (a : Nat) (T : TB) (ls : List Nat) : PR := if isW B N a kwWi then tabE B N (nx B N a) true T ls else ckW B N a kwLo (tabE B N (nx B N a) false T ls)
def addB (T : TB) (w h : Nat) (nm : List Nat) : TB := (T.1, T.2.1 ++ [(w, h, nsq T.2.1, nm)], T.2.2)
def boaH (a : Nat) (w : Nat) (nm : List Nat) (T : TB) (ls : List Nat) : PR := ckN B N a 1 4 (ck (decide (nsq T.2.1 + w * tV B N a ≤ 14)) 4 a (.inr (nx B N a, addB T w (tV B N a) nm, ls)))
def boaW (a : Nat) (nm : List Nat) (T : TB) (ls : List Nat) : PR := ckN B N a 1 8 (ckW B N (nx B N a) kwHi (boaH B N (nx B N (nx B N a)) (tV B N a) nm T ls))
def boaL (a : Nat) (T : TB) (ls : List Nat) : PR := ckNm B N a T (ckW B N (nx B N a) kwWd (boaW B N (nx B N (nx B N a)) (tw B N a) T ls))
def addJ (T : TB) (q : Nat) : TB := (T.1, T.2.1, T.2.2.1, T.2.2.2 ||| 2 ^ q)
def jugY (a x : Nat) (b : BD) (T : TB) (ls : List Nat) : PR := ckN B N a 0 (b.2.1 - 1) (ck (!T.2.2.2.testBit (b.2.2.1 + b.1 * tV B N a + x)) 3 a (.inr (nx B N a, addJ T (b.2.2.1 + b.1 * tV B N a + x), ls)))
def jugX (a : Nat) (b : BD) (T : TB) (ls : List Nat) : PR := ckN B N a 0 (b.1 - 1) (ck (decide (eK B N (nx B N a) = 44)) 1 (nx B N a) (jugY B N (nx B N (nx B N a)) (tV B N a) b T ls))
def jugL (a : Nat) (T : TB) (ls : List Nat) : PR := ck (nmOK B N a) 1 a (match (findN T (tw B N a) 7 0).bind fun k => if k < 3 then T.2.1[k]? else none with
  | none => .inl (2, a)
  | some b => jugX B N (nx B N a) b T ls)
def addP (T : TB) (p : PC) : TB := (T.1, T.2.1, T.2.2.1 ++ [p], T.2.2.2)
def pieO (a kd w h : Nat) (tn : Bool) (nm : List Nat) (T : TB) (ls : List Nat) : PR := if isW B N a kwFi then .inr (nx B N a, addP T (kd, w, h, tn, 1, nm), ls) else if isW B N a kwSe then .inr (nx B N a, addP T (kd, w, h, tn, 2, nm), ls) else .inr (a, addP T (kd, w, h, tn, 0, nm), ls)
def pieT (a kd w h : Nat) (nm : List Nat) (T : TB) (ls : List Nat) : PR := if isW B N a kwTu then pieO B N (nx B N a) kd w h true nm T ls else pieO B N a kd w h false nm T ls
def pLo (kd : Nat) : Nat := if kd = 1 then 1 else 2
def pHi (kd : Nat) : Nat := if kd = 1 then 4 else 3
def pieH (a kd w : Nat) (nm : List Nat) (T : TB) (ls : List Nat) : PR := ckN B N a (pLo kd) (pHi kd) (pieT B N (nx B N a) kd w (tV B N a) nm T ls)
def pieW (a kd : Nat) (nm : List Nat) (T : TB) (ls : List Nat) : PR := ckN B N a (pLo kd) (pHi kd) (ck (decide (eK B N (nx B N a) = 44)) 1 (nx B N a) (pieH B N (nx B N (nx B N a)) kd (tV B N a) nm T ls))
def pieK (a kd : Nat) (nm : List Nat) (T : TB) (ls : List Nat) : PR := if kd = 0 then pieT B N (nx B N a) 0 1 1 nm T ls else pieW B N (nx B N a) kd nm T ls
def pieL (a : Nat) (T : TB) (ls : List Nat) : PR := ckNm B N a T (if isW B N (nx B N a) kwCo then pieK B N (nx B N a) 0 (tw B N a) T ls else if isW B N (nx B N a) kwBl then pieK B N (nx B N a) 1 (tw B N a) T ls else if isW B N (nx B N a) kwCr then pieK B N (nx B N a) 2 (tw B N a) T ls else .inl (1, nx B N a))
def layL (a : Nat) (T : TB) (ls : List Nat) : PR := ck (decide (eK B N a = 3)) 1 a (match (allL T)[tV B N a]? with
  | none => .inl (7, a)
  | some e => ck (myE T e (tkn (allL T) ls) (ls.length % 2)) 7 a (.inr (nx B N a, T, ls ++ [tV B N a])))
def linL (a : Nat) (T : TB) (ls : List Nat) : PR :=
  if isW B N a kwT then ck (!T.1.1) 3 a (tabL B N (nx B N a) T ls)
  else if isW B N a kwBo then ck (decide (T.2.1.length < 3)) 5 a (ck ls.isEmpty 6 a (boaL B N (nx B N a) T ls))
  else if isW B N a kwJu then ck ls.isEmpty 6 a (jugL B N (nx B N a) T ls)
  else if isW B N a kwPi then ck (decide (T.2.2.1.length < 4)) 5 a (ck ls.isEmpty 6 a (pieL B N (nx B N a) T ls))
  else if isW B N a kwLa then ck (decide (ls.length < 8)) 5 a (ck T.1.1 6 a (layL B N (nx B N a) T ls))
  else .inl (1, a)
def endL (a : Nat) (T : TB) (ls : List Nat) : PR := ck (T.1.1 && (!T.2.1.isEmpty && !T.2.2.1.isEmpty)) 6 a (.inr (a, T, ls))
def lnsL : Nat → Nat → TB → List Nat → PR
  | 0, a, _, _ => .inl (1, a)
  | n + 1, a, T, ls => match linL B N a T ls with
    | .inl f => .inl f
    | .inr (a', T', ls') => if eK B N a' = 0 then endL a' T' ls' else if eK B N a' = 59 then lnsL n (nx B N a') T' ls' else .inl (1, a')
def TB0 : TB := ((false, false, false), [], [], 0)
def prs : PR := lnsL B N (N + 1) (tA B N 0) TB0 []
/-- what holds between lines -/
def PI (a : Nat) (T : TB) (ls : List Nat) : Prop := a ≤ N ∧ WFT T ∧ GD (allL T) ls ∧ (T.1.1 = false → T.1 = (false, false, false) ∧ ls = []) ∧ ls.length ≤ 8
/-- what comes of a line that begins behind a -/
def PG (a : Nat) : PR → Prop
  | .inl (f, p) => 1 ≤ f ∧ f ≤ 7 ∧ p ≤ N
  | .inr (a', T', ls') => a ≤ a' ∧ PI N a' T' ls'
end PSP
section PSL
variable {B : Nat → Nat} {N : Nat}
theorem PG.ck {a c f p : Nat} {b : Bool} {k : PR} (hf : 1 ≤ f ∧ f ≤ 7) (hp : p ≤ N) (h : b = true → PG N c k) : PG N c (ck b f p k) := by
  unfold Jvm.Pilot.CCoinsLaidLaw_law_r4080_fdb2f8.ck
  split
  · rename_i hb; exact h hb
  · exact ⟨hf.1, hf.2, hp⟩
theorem PG.mo {a c : Nat} {k : PR} (h : PG N a k) (hc : c ≤ a) : PG N c k := by
  cases k with
  | inl x => exact h
  | inr x => exact ⟨Nat.le_trans hc h.1, h.2⟩
theorem PG.n {a c lo hi : Nat} {k : PR} (ha : a ≤ N) (h : eK B N a = 3 → lo ≤ tV B N a → tV B N a ≤ hi → PG N c k) : PG N c (ckN B N a lo hi k) := by
  refine PG.ck (a := a) (by decide) ha fun h1 => PG.ck (a := a) (by decide) ha fun h2 => ?_
  simp only [decide_eq_true_eq] at h1 h2
  exact h h1 h2.1 h2.2
theorem PG.w {a c : Nat} {w : List Nat} {k : PR} (ha : a ≤ N) (h : isW B N a w = true → PG N c k) : PG N c (ckW B N a w k) := PG.ck (a := a) (by decide) ha h
theorem nx_ge {a : Nat} (ha : a ≤ N) : a ≤ nx B N a := Nat.le_trans (eE_le ha).1 (tA_le (eE_le ha).2).1
theorem isW_k {a : Nat} {w : List Nat} (h : isW B N a w = true) : eK B N a = 2 := by
  simp only [isW, decide_eq_true_eq] at h
  exact h.1
theorem eK_gt {a : Nat} (ha : a ≤ N) (h : eK B N a ≠ 0) : a < eE B N a := by
  unfold eK at h
  split at h
  · exact absurd rfl h
  · rename_i h1
    unfold eE
    rw [if_neg h1]
    split
    · rename_i h2
      exact (pSm_len h2 _ (Nat.le_refl _)).1
    · split
      · rename_i h3
        exact (pDg_len h3 _ (Nat.le_refl _)).1
      · omega
theorem nx_gt {a : Nat} (ha : a ≤ N) (h : eK B N a ≠ 0) : a < nx B N a := Nat.lt_of_lt_of_le (eK_gt ha h) (tA_le (eE_le ha).2).1
theorem nsq_app (bs : List BD) (b : BD) : nsq (bs ++ [b]) = nsq bs + b.1 * b.2.1 := by simp [nsq]
theorem tw_NM {a : Nat} (ha : a ≤ N) (h : eK B N a = 2) : NM (tw B N a) := by
  have hs : pSm B N a = true := by
    unfold eK at h
    split at h
    · cases h
    · split at h
      · assumption
      · (repeat' (split at h)) <;> cases h
  have he : eE B N a - a ≤ 8 := by
    unfold eK at h
    split at h
    · cases h
    · split at h
      · cases h
      · omega
  have hg := eK_gt (B := B) ha (show eK B N a ≠ 0 by omega)
  refine ⟨by rw [tw_len]; omega, by rw [tw_len]; exact he, fun c hc => ?_⟩
  simp only [tw, List.mem_map, List.mem_range] at hc
  obtain ⟨j, hj, rfl⟩ := hc
  have := rn_in (pSm B N) (N - a) a (a + j) (by omega) (by rw [← eE_sm hs]; omega)
  simp only [pSm, Bool.and_eq_true, decide_eq_true_eq] at this
  exact this.2
theorem nmOK_k {a : Nat} (h : nmOK B N a = true) : eK B N a = 2 := by
  simp only [nmOK, Bool.and_eq_true, decide_eq_true_eq] at h
  exact h.1
theorem WFT.addB {T : TB} (h : WFT T) {w hh : Nat} {nm : List Nat} (hb : T.2.1.length < 3) (hw : 1 ≤ w ∧ w ≤ 8) (hhh : 1 ≤ hh ∧ hh ≤ 4) (hs : nsq T.2.1 + w * hh ≤ 14) (hn : NM nm) : WFT (addB T w hh nm) := by
  obtain ⟨⟨b1, b2, b3⟩, p1, j1⟩ := h
  refine ⟨⟨by simp [Jvm.Pilot.CCoinsLaidLaw_law_r4080_fdb2f8.addB]; omega, by rw [Jvm.Pilot.CCoinsLaidLaw_law_r4080_fdb2f8.addB, nsq_app]; exact hs, fun k b hk => ?_⟩, p1, Nat.lt_of_lt_of_le j1 (Nat.pow_le_pow_right (by decide) (by rw [Jvm.Pilot.CCoinsLaidLaw_law_r4080_fdb2f8.addB, nsq_app]; exact Nat.le_add_right _ _))⟩
  simp only [Jvm.Pilot.CCoinsLaidLaw_law_r4080_fdb2f8.addB] at hk ⊢
  by_cases hl : k < T.2.1.length
  · rw [List.getElem?_append_left hl] at hk
    rw [List.take_append_of_le_length (by omega)]
    exact b3 k b hk
  · have := (List.getElem?_eq_some_iff.mp hk).1
    rw [List.length_append, List.length_cons, List.length_nil] at this
    obtain rfl : k = T.2.1.length := by omega
    simp only [List.getElem?_concat_length, Option.some.injEq] at hk
    subst hk
    rw [List.take_append_of_le_length (Nat.le_refl _), List.take_length]
    exact ⟨hw.1, hw.2, hhh.1, hhh.2, rfl, hn⟩
theorem WFT.addP {T : TB} (h : WFT T) {p : PC} (hb : T.2.2.1.length < 4) (hp : (p.1 = 0 ∧ p.2.1 = 1 ∧ p.2.2.1 = 1 ∨ p.1 = 1 ∧ (1 ≤ p.2.1 ∧ p.2.1 ≤ 4) ∧ 1 ≤ p.2.2.1 ∧ p.2.2.1 ≤ 4 ∨ p.1 = 2 ∧ (2 ≤ p.2.1 ∧ p.2.1 ≤ 3) ∧ 2 ≤ p.2.2.1 ∧ p.2.2.1 ≤ 3) ∧ p.2.2.2.2.1 ≤ 2 ∧ NM p.2.2.2.2.2) : WFT (addP T p) := by
  obtain ⟨b1, ⟨p1, p2⟩, j1⟩ := h
  refine ⟨b1, ⟨by simp [Jvm.Pilot.CCoinsLaidLaw_law_r4080_fdb2f8.addP]; omega, fun k q hk => ?_⟩, j1⟩
  simp only [Jvm.Pilot.CCoinsLaidLaw_law_r4080_fdb2f8.addP] at hk
  by_cases hl : k < T.2.2.1.length
  · rw [List.getElem?_append_left hl] at hk
    exact p2 k q hk
  · have := (List.getElem?_eq_some_iff.mp hk).1
    rw [List.length_append, List.length_cons, List.length_nil] at this
    obtain rfl : k = T.2.2.1.length := by omega
    simp only [List.getElem?_concat_length, Option.some.injEq] at hk
    subst hk
    exact hp
theorem PG.tabE {a : Nat} {w : Bool} {T : TB} (ha : a ≤ N) (hW : WFT T) : PG N a (tabE B N a w T []) := by
  unfold Jvm.Pilot.CCoinsLaidLaw_law_r4080_fdb2f8.tabE
  split
  · exact ⟨nx_ge ha, nx_le ha, hW, GD.nil _, fun h => by simp at h, by simp⟩
  · exact ⟨Nat.le_refl _, ha, hW, GD.nil _, fun h => by simp at h, by simp⟩
theorem PG.tabL {a : Nat} {T : TB} (ha : a ≤ N) (hW : WFT T) : PG N a (tabL B N a T []) := by
  unfold Jvm.Pilot.CCoinsLaidLaw_law_r4080_fdb2f8.tabL
  split
  · exact (PG.tabE (nx_le ha) hW).mo (nx_ge ha)
  · exact PG.w ha fun _ => (PG.tabE (nx_le ha) hW).mo (nx_ge ha)
theorem PG.boaL {a : Nat} {T : TB} (h : PI N a T []) (hb : T.2.1.length < 3) : PG N a (boaL B N a T []) := by
  obtain ⟨ha, hW, hG, h4, h5⟩ := h
  refine PG.ck (a := a) (by decide) ha fun h1 => PG.ck (a := a) (by decide) ha fun h2 => ?_
  have a1 := nx_le (B := B) ha
  have g1 := nx_ge (B := B) ha
  refine PG.w a1 fun _ => ?_
  have a2 := nx_le (B := B) a1
  have g2 := nx_ge (B := B) a1
  refine PG.n a2 fun _ w1 w2 => ?_
  have a3 := nx_le (B := B) a2
  have g3 := nx_ge (B := B) a2
  refine PG.w a3 fun _ => ?_
  have a4 := nx_le (B := B) a3
  have g4 := nx_ge (B := B) a3
  refine PG.n a4 fun _ v1 v2 => PG.ck (a := a) (by decide) a4 fun v3 => ?_
  simp only [decide_eq_true_eq] at v3
  refine ⟨Nat.le_trans g1 (Nat.le_trans g2 (Nat.le_trans g3 (Nat.le_trans g4 (nx_ge a4)))), nx_le a4, hW.addB hb ⟨w1, w2⟩ ⟨v1, v2⟩ v3 (tw_NM ha (nmOK_k h1)), GD.nil _, h4, by simp⟩
theorem PG.jugL {a : Nat} {T : TB} (h : PI N a T []) : PG N a (jugL B N a T []) := by
  obtain ⟨ha, hW, hG, h4, h5⟩ := h
  refine PG.ck (a := a) (by decide) ha fun h1 => ?_
  split
  · exact ⟨by decide, by decide, ha⟩
  · rename_i b hb
    obtain ⟨k, hk, hk2⟩ := Option.bind_eq_some_iff.mp hb
    split at hk2
    · obtain ⟨q1, q2⟩ := WFB.sq hW hk2
      obtain ⟨k3, w1, w2, w3, w4⟩ := WFB.bd hW hk2
      have a1 := nx_le (B := B) ha
      have g1 := nx_ge (B := B) ha
      refine PG.n a1 fun _ x1 x2 => ?_
      have a2 := nx_le (B := B) a1
      have g2 := nx_ge (B := B) a1
      refine PG.ck (a := a) (by decide) a2 fun _ => ?_
      have a3 := nx_le (B := B) a2
      have g3 := nx_ge (B := B) a2
      refine PG.n a3 fun _ y1 y2 => PG.ck (a := a) (by decide) a3 fun _ => ?_
      refine ⟨Nat.le_trans g1 (Nat.le_trans g2 (Nat.le_trans g3 (nx_ge a3))), nx_le a3, ⟨hW.1, hW.2.1, ?_⟩, GD.nil _, h4, by simp⟩
      refine lt_two hW.2.2 ?_
      have m1 : b.1 * (tV B N (nx B N (nx B N (nx B N a))) + 1) ≤ b.1 * b.2.1 := Nat.mul_le_mul_left _ (by omega)
      rw [Nat.mul_add, Nat.mul_one] at m1
      show b.2.2.1 + b.1 * tV B N (nx B N (nx B N (nx B N a))) + tV B N (nx B N a) < nsq T.2.1
      omega
    · cases hk2
theorem pL_bd (kd : Nat) : 1 ≤ pLo kd ∧ pHi kd ≤ 4 ∧ (kd = 1 → pLo kd = 1 ∧ pHi kd = 4) ∧ (kd ≠ 1 → pLo kd = 2 ∧ pHi kd = 3) := by
  unfold pLo pHi
  by_cases h : kd = 1
  · simp [h]
  · simp [h]
theorem PG.pieO {a kd w h : Nat} {tn : Bool} {nm : List Nat} {T : TB} (ha : a ≤ N) (h4 : T.1.1 = false → T.1 = (false, false, false) ∧ ([] : List Nat) = []) (hW : ∀ o, o ≤ 2 → WFT (addP T (kd, w, h, tn, o, nm))) : PG N a (pieO B N a kd w h tn nm T []) := by
  unfold Jvm.Pilot.CCoinsLaidLaw_law_r4080_fdb2f8.pieO
  split
  · exact ⟨nx_ge ha, nx_le ha, hW 1 (by decide), GD.nil _, h4, by simp⟩
  · split
    · exact ⟨nx_ge ha, nx_le ha, hW 2 (by decide), GD.nil _, h4, by simp⟩
    · exact ⟨Nat.le_refl _, ha, hW 0 (by decide), GD.nil _, h4, by simp⟩
theorem PG.pieT {a kd w h : Nat} {nm : List Nat} {T : TB} (ha : a ≤ N) (h4 : T.1.1 = false → T.1 = (false, false, false) ∧ ([] : List Nat) = []) (hW : ∀ t o, o ≤ 2 → WFT (addP T (kd, w, h, t, o, nm))) : PG N a (pieT B N a kd w h nm T []) := by
  unfold Jvm.Pilot.CCoinsLaidLaw_law_r4080_fdb2f8.pieT
  split
  · exact (PG.pieO (nx_le ha) h4 (hW true)).mo (nx_ge ha)
  · exact PG.pieO ha h4 (hW false)
theorem PG.pieK {a kd : Nat} {nm : List Nat} {T : TB} (h : PI N a T []) (hp : T.2.2.1.length < 4) (hn : NM nm) (hk : kd ≤ 2) : PG N a (pieK B N a kd nm T []) := by
  obtain ⟨ha, hW, hG, h4, h5⟩ := h
  have a1 := nx_le (B := B) ha
  have g1 := nx_ge (B := B) ha
  unfold Jvm.Pilot.CCoinsLaidLaw_law_r4080_fdb2f8.pieK
  split
  · exact (PG.pieT a1 h4 fun t o ho => hW.addP hp ⟨Or.inl ⟨rfl, rfl, rfl⟩, ho, hn⟩).mo g1
  · rename_i hk0
    refine PG.n a1 fun _ w1 w2 => ?_
    have a2 := nx_le (B := B) a1
    have g2 := nx_ge (B := B) a1
    refine PG.ck (a := a) (by decide) a2 fun _ => ?_
    have a3 := nx_le (B := B) a2
    have g3 := nx_ge (B := B) a2
    refine PG.n a3 fun _ v1 v2 => ?_
    have a4 := nx_le (B := B) a3
    have g4 := nx_ge (B := B) a3
    have hpl := pL_bd kd
    refine (PG.pieT a4 h4 fun t o ho => hW.addP hp ⟨?_, ho, hn⟩).mo (Nat.le_trans g1 (Nat.le_trans g2 (Nat.le_trans g3 g4)))
    by_cases h1 : kd = 1
    · have := hpl.2.2.1 h1
      exact Or.inr (Or.inl ⟨h1, by simp only; omega, by simp only; omega, by simp only; omega⟩)
    · have := hpl.2.2.2 h1
      exact Or.inr (Or.inr ⟨by simp only; omega, by simp only; omega, by simp only; omega, by simp only; omega⟩)
theorem PG.pieL {a : Nat} {T : TB} (h : PI N a T []) (hp : T.2.2.1.length < 4) : PG N a (pieL B N a T []) := by
  have ha := h.1
  refine PG.ck (a := a) (by decide) ha fun h1 => PG.ck (a := a) (by decide) ha fun h2 => ?_
  have hn := tw_NM ha (nmOK_k h1)
  have a1 := nx_le (B := B) ha
  have g1 := nx_ge (B := B) ha
  have h' : PI N (nx B N a) T [] := ⟨a1, h.2⟩
  split
  · exact (PG.pieK h' hp hn (by decide)).mo g1
  · split
    · exact (PG.pieK h' hp hn (by decide)).mo g1
    · split
      · exact (PG.pieK h' hp hn (by decide)).mo g1
      · exact ⟨by decide, by decide, a1⟩
theorem PG.layL {a : Nat} {T : TB} {ls : List Nat} (h : PI N a T ls) (h8 : ls.length < 8) (hT : T.1.1 = true) : PG N a (layL B N a T ls) := by
  obtain ⟨ha, hW, hG, h4, h5⟩ := h
  refine PG.ck (a := a) (by decide) ha fun h1 => ?_
  split
  · exact ⟨by decide, by decide, ha⟩
  · rename_i e he
    refine PG.ck (a := a) (by decide) ha fun h2 => ?_
    refine ⟨nx_ge ha, nx_le ha, hW, hG.snoc he (frE_0 (myE_fr h2)), (fun h => by rw [hT] at h; cases h), ?_⟩
    rw [List.length_append, List.length_cons, List.length_nil]
    omega
theorem PG.linL {a : Nat} {T : TB} {ls : List Nat} (h : PI N a T ls) : PG N (nx B N a) (linL B N a T ls) ∧ (∀ a' T' ls', linL B N a T ls = .inr (a', T', ls') → eK B N a = 2) := by
  have h' : PI N (nx B N a) T ls := ⟨nx_le h.1, h.2⟩
  have ha := h.1
  unfold Jvm.Pilot.CCoinsLaidLaw_law_r4080_fdb2f8.linL
  split
  · rename_i h1
    refine ⟨PG.ck (a := a) (by decide) ha fun h2 => ?_, fun _ _ _ _ => isW_k h1⟩
    simp only [Bool.not_eq_true'] at h2
    rw [(h.2.2.2.1 h2).2]
    exact PG.tabL h'.1 h'.2.1
  · split
    · rename_i h1
      refine ⟨PG.ck (a := a) (by decide) ha fun h2 => PG.ck (a := a) (by decide) ha fun h3 => ?_, fun _ _ _ _ => isW_k h1⟩
      rw [List.isEmpty_iff] at h3
      subst h3
      exact PG.boaL h' (by simpa using h2)
    · split
      · rename_i h1
        refine ⟨PG.ck (a := a) (by decide) ha fun h3 => ?_, fun _ _ _ _ => isW_k h1⟩
        rw [List.isEmpty_iff] at h3
        subst h3
        exact PG.jugL h'
      · split
        · rename_i h1
          refine ⟨PG.ck (a := a) (by decide) ha fun h2 => PG.ck (a := a) (by decide) ha fun h3 => ?_, fun _ _ _ _ => isW_k h1⟩
          rw [List.isEmpty_iff] at h3
          subst h3
          exact PG.pieL h' (by simpa using h2)
        · split
          · rename_i h1
            refine ⟨PG.ck (a := a) (by decide) ha fun h2 => PG.ck (a := a) (by decide) ha fun h3 => ?_, fun _ _ _ _ => isW_k h1⟩
            exact PG.layL h' (by simpa using h2) h3
          · exact ⟨⟨by decide, by decide, ha⟩, fun _ _ _ hc => by cases hc⟩
/-- what a text comes to: a fault at a place, or a table with what lies -/
def PE : PR → Prop
  | .inl (f, p) => 1 ≤ f ∧ f ≤ 7 ∧ p ≤ N
  | .inr (_, T, ls) => VT0 T ∧ GD (allL T) ls ∧ ls.length ≤ 8
theorem PE.lns : ∀ n a T ls, PI N a T ls → N - a < n → PE (N := N) (lnsL B N n a T ls)
  | 0, a, T, ls => fun _ h => by omega
  | n + 1, a, T, ls => fun h hn => by
    have hl := PG.linL (B := B) h
    simp only [lnsL]
    cases hr : linL B N a T ls with
    | inl f =>
      rw [hr] at hl
      exact hl.1
    | inr x =>
      obtain ⟨a', T', ls'⟩ := x
      rw [hr] at hl
      obtain ⟨⟨g1, g2⟩, g3⟩ := hl
      have g4 := nx_gt h.1 (show eK B N a ≠ 0 by rw [g3 _ _ _ rfl]; decide)
      simp only
      split
      · unfold endL ck
        split
        · rename_i hb
          simp only [Bool.and_eq_true, Bool.not_eq_true', List.isEmpty_eq_false_iff] at hb
          exact ⟨⟨g2.2.1, hb.1, hb.2.1, hb.2.2⟩, g2.2.2.1, g2.2.2.2.2⟩
        · exact ⟨by decide, by decide, g2.1⟩
      · split
        · refine PE.lns n _ _ _ ⟨nx_le g2.1, g2.2⟩ ?_
          have := nx_ge (B := B) g2.1
          have := nx_le (B := B) g2.1
          omega
        · exact ⟨by decide, by decide, g2.1⟩
theorem WFT_0 : WFT TB0 := ⟨⟨by decide, by decide, fun k b h => by simp [TB0] at h⟩, ⟨by decide, fun k b h => by simp [TB0] at h⟩, by decide⟩
theorem PI_0 : PI N (tA B N 0) TB0 [] := ⟨(tA_le (Nat.zero_le _)).2, WFT_0, GD.nil _, fun _ => ⟨rfl, rfl⟩, by simp⟩
theorem PE_prs : PE (N := N) (prs B N) := PE.lns _ _ _ _ PI_0 (by omega)
end PSL
