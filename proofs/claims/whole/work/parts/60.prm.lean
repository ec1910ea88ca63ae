/-! the model reads the text: lines -/
theorem ck_t {f a : Nat} {k : PR} : ck true f a k = k := rfl
theorem ck_f {f a : Nat} {k : PR} : ck false f a k = .inl (f, a) := rfl
def PSt (B : Nat → Nat) (N a : Nat) (T : TB) (ls : List Nat) (S : MS) : Prop := TXT B N S ∧ TkA B N a S ∧ S.2.1 13 = false ∧ TR T (S.2.2.1 16) ∧ RW (ls, 0) (S.2.2.1 18) 0
def FL (f p : Nat) (S : MS) : Prop := S.2.1 13 = true ∧ S.1 9 = nI f ∧ S.1 10 = nI p
def PO (B : Nat → Nat) (N : Nat) (R : PR) (S : MS) : Prop := match R with
  | .inl (f, p) => FL f p S
  | .inr (a, T, ls) => PSt B N a T ls S
/-- what reading may change; a fault is told only of what fails -/
def Pm (S S' : MS) : Prop := Sm [4, 5, 6, 7, 8, 9, 10, 30] [13] [12, 16, 18, 23, 24, 25, 26, 27, 28, 29] S S' ∧ (S'.2.1 13 = false → S'.1 9 = S.1 9 ∧ S.2.1 13 = false)
theorem Pm.rf {S : MS} : Pm S S := ⟨Sm.rf, fun h => ⟨rfl, h⟩⟩
theorem Pm.tr {S S' S'' : MS} (h : Pm S S') (h' : Pm S' S'') : Pm S S'' := ⟨h.1.tr h'.1, fun e => ⟨(h'.2 e).1.trans (h.2 (h'.2 e).2).1, (h.2 (h'.2 e).2).2⟩⟩
theorem Pm.of {is bs ar : List Nat} {S S' : MS} (h : Sm is bs ar S S') (h1 : ∀ j ∈ is, j ∈ [4, 5, 6, 7, 8, 30]) (h2 : ∀ j ∈ bs, j ∈ ([] : List Nat)) (h3 : ∀ j ∈ ar, j ∈ [12, 16, 18, 23, 24, 25, 26, 27, 28, 29]) : Pm S S' :=
  ⟨h.mo (fun j hj => by have := h1 j hj; revert this; simp only [List.mem_cons]; rintro (h | h | h | h | h | h | h) <;> simp_all) (fun j hj => absurd (h2 j hj) (by simp)) h3, fun e => ⟨h.1 9 fun hj => by have := h1 9 hj; simp at this, (h.2.1 13 fun hj => by have := h2 13 hj; simp at this).symm.trans e⟩⟩
theorem Pm.a {S S' : MS} {k : Nat} {f : Nat → Int32} (h : Pm S S') (hk : k ∈ [12, 16, 18, 23, 24, 25, 26, 27, 28, 29]) : Pm S (seta S' k f) := ⟨h.1.a hk, h.2⟩
theorem Pm.wr {S S' : MS} (h : Pm S S') {f a : Nat} : Pm S (wr S' (nI f) a) := ⟨((Sm.b h.1 (by decide)).i (by decide)).i (by decide), fun e => by cases e⟩
theorem FL.wr {S : MS} {f a : Nat} : FL f a (wr S (nI f) a) := ⟨rfl, rfl, rfl⟩
theorem FL.a {S : MS} {f p k : Nat} {g : Nat → Int32} (h : FL f p S) : FL f p (seta S k g) := h
theorem Pm.nx {S S' S'' : MS} (h : Pm S S') (h2 : Sm [4, 5, 6, 7, 8] [] [12] S' S'') : Pm S S'' := h.tr (Pm.of h2 (by decide) (by simp) (by decide))
theorem TXT.pm {B : Nat → Nat} {N : Nat} {S S' : MS} (h : TXT B N S) (hS : Pm S S') : TXT B N S' := h.sm hS.1 (by decide) (by decide)
theorem TXT.nx {B : Nat → Nat} {N : Nat} {S S' : MS} (h : TXT B N S) (hS : Sm [4, 5, 6, 7, 8] [] [12] S S') : TXT B N S' := h.sm hS (by decide) (by decide)
theorem TR.cg {T : TB} {f f' : Nat → Int32} (h : TR T f) (e : f' = f) : TR T f' := e ▸ h
theorem TR.law {T : TB} {f f' : Nat → Int32} {w p : Bool} (h : TR T f) (h0 : f' 0 = 1) (h1 : f' 1 = bi w) (h2 : f' 2 = bi p) (h3 : ∀ i, 3 ≤ i → f' i = f i) : TR ((true, w, p), T.2) f' := by
  obtain ⟨-, ⟨b1, b2, b3⟩, ⟨c1, c2⟩, e1, e2, e3, e4⟩ := h
  refine ⟨⟨h0, h1, h2⟩, ⟨(h3 _ (by decide)).trans b1, (h3 _ (by decide)).trans b2, (h3 _ (by decide)).trans b3⟩, ⟨(h3 _ (by decide)).trans c1, (h3 _ (by decide)).trans c2⟩, fun k b hb => ?_, fun k p hp => ?_, fun n w hw => ?_, fun n hn hw => ?_⟩
  · obtain ⟨g1, g2, g3⟩ := e1 k b hb
    exact ⟨(h3 _ (by omega)).trans g1, (h3 _ (by omega)).trans g2, (h3 _ (by omega)).trans g3⟩
  · obtain ⟨g1, g2, g3, g4, g5⟩ := e2 k p hp
    exact ⟨(h3 _ (by omega)).trans g1, (h3 _ (by omega)).trans g2, (h3 _ (by omega)).trans g3, (h3 _ (by omega)).trans g4, (h3 _ (by omega)).trans g5⟩
  · obtain ⟨g1, g2⟩ := e3 n w hw
    exact ⟨(h3 _ (by omega)).trans g1, fun i hi => (h3 _ (by omega)).trans (g2 i hi)⟩
  · exact (h3 _ (by omega)).trans (e4 n hn hw)
theorem nms_B {T : TB} {w h : Nat} {nm : List Nat} (n : Nat) (hb : T.2.1.length < 3) : nms (addB T w h nm) n = if n = T.2.1.length then some nm else nms T n := by
  unfold nms addB
  by_cases h3 : n < 3
  · rw [if_pos h3, if_pos h3]
    by_cases e : n = T.2.1.length
    · subst e; simp
    · rw [if_neg e]
      by_cases hl : n < T.2.1.length
      · rw [List.getElem?_append_left hl]
      · rw [List.getElem?_eq_none (by simp; omega), List.getElem?_eq_none (by omega)]
  · rw [if_neg h3, if_neg h3, if_neg (by omega)]
theorem TR.addB {T : TB} (hW : WFT T) {f f1 f' : Nat → Int32} {w h : Nat} {nm : List Nat} (hT : TR T f) (hb : T.2.1.length < 3) (hn : NP f f1 T.2.1.length nm) (hnm : nm.length ≤ 8) (g3 : f' 3 = nI (T.2.1.length + 1)) (g5 : f' 5 = nI (nsq T.2.1 + w * h)) (g7 : f' (7 + T.2.1.length) = nI w) (g10 : f' (10 + T.2.1.length) = nI h) (g13 : f' (13 + T.2.1.length) = nI (nsq T.2.1)) (go : ∀ i, i ≠ 3 → i ≠ 5 → i ≠ 7 + T.2.1.length → i ≠ 10 + T.2.1.length → i ≠ 13 + T.2.1.length → f' i = f1 i) : TR (addB T w h nm) f' := by
  obtain ⟨⟨a1, a2, a3⟩, ⟨b1, b2, b3⟩, ⟨c1, c2⟩, e1, e2, e3, e4⟩ := hT
  obtain ⟨n1, n2, n3⟩ := hn
  have hp4 := hW.2.1.1
  have k0 : ∀ i, i < 37 → i ≠ 3 → i ≠ 5 → i ≠ 7 + T.2.1.length → i ≠ 10 + T.2.1.length → i ≠ 13 + T.2.1.length → f' i = f i := fun i h1 h2 h3 h4 h5 h6 => (go i h2 h3 h4 h5 h6).trans (n3 i (by omega) (by omega))
  refine ⟨⟨(k0 0 (by decide) (by decide) (by decide) (by omega) (by omega) (by omega)).trans a1, (k0 1 (by decide) (by decide) (by decide) (by omega) (by omega) (by omega)).trans a2, (k0 2 (by decide) (by decide) (by decide) (by omega) (by omega) (by omega)).trans a3⟩, ⟨?_, (k0 4 (by decide) (by decide) (by decide) (by omega) (by omega) (by omega)).trans b2, ?_⟩, ⟨(k0 6 (by decide) (by decide) (by decide) (by omega) (by omega) (by omega)).trans c1, (k0 16 (by decide) (by decide) (by decide) (by omega) (by omega) (by omega)).trans c2⟩, fun k b hk => ?_, fun k p hk => ?_, fun n q hq => ?_, fun n hn7 hq => ?_⟩
  · rw [g3]; simp [Jvm.Pilot.CCoinsLaidLaw_law_r4080_fdb2f8.addB]
  · rw [g5]; simp [Jvm.Pilot.CCoinsLaidLaw_law_r4080_fdb2f8.addB, nsq_app]
  · simp only [Jvm.Pilot.CCoinsLaidLaw_law_r4080_fdb2f8.addB] at hk
    by_cases hl : k < T.2.1.length
    · rw [List.getElem?_append_left hl] at hk
      obtain ⟨q1, q2, q3⟩ := e1 k b hk
      exact ⟨(k0 _ (by omega) (by omega) (by omega) (by omega) (by omega) (by omega)).trans q1, (k0 _ (by omega) (by omega) (by omega) (by omega) (by omega) (by omega)).trans q2, (k0 _ (by omega) (by omega) (by omega) (by omega) (by omega) (by omega)).trans q3⟩
    · have := (List.getElem?_eq_some_iff.mp hk).1
      rw [List.length_append, List.length_cons, List.length_nil] at this
      obtain rfl : k = T.2.1.length := by omega
      simp only [List.getElem?_concat_length, Option.some.injEq] at hk
      subst hk
      exact ⟨g7, g10, g13⟩
  · obtain ⟨q1, q2, q3, q4, q5⟩ := e2 k p hk
    have := (List.getElem?_eq_some_iff.mp hk).1
    have hk4 : k < 4 := by simp only [Jvm.Pilot.CCoinsLaidLaw_law_r4080_fdb2f8.addB] at this; omega
    exact ⟨(k0 _ (by omega) (by omega) (by omega) (by omega) (by omega) (by omega)).trans q1, (k0 _ (by omega) (by omega) (by omega) (by omega) (by omega) (by omega)).trans q2, (k0 _ (by omega) (by omega) (by omega) (by omega) (by omega) (by omega)).trans q3, (k0 _ (by omega) (by omega) (by omega) (by omega) (by omega) (by omega)).trans q4, (k0 _ (by omega) (by omega) (by omega) (by omega) (by omega) (by omega)).trans q5⟩
  · rw [nms_B n hb] at hq
    split at hq
    · rename_i h; subst h
      cases hq
      exact ⟨(go _ (by omega) (by omega) (by omega) (by omega) (by omega)).trans n1, fun i hi => (go _ (by omega) (by omega) (by omega) (by omega) (by omega)).trans (n2 i hi)⟩
    · rename_i hne
      obtain ⟨q1, q2⟩ := e3 n q hq
      have hq8 := (nms_NM hW hq).1.2.1
      have hn7 := (nms_NM hW hq).2
      exact ⟨((go _ (by omega) (by omega) (by omega) (by omega) (by omega)).trans (n3 _ (by omega) (by omega))).trans q1, fun i hi => ((go _ (by omega) (by omega) (by omega) (by omega) (by omega)).trans (n3 _ (by omega) (by omega))).trans (q2 i hi)⟩
  · rw [nms_B n hb] at hq
    split at hq
    · cases hq
    · exact ((go _ (by omega) (by omega) (by omega) (by omega) (by omega)).trans (n3 _ (by omega) (by omega))).trans (e4 n hn7 hq)
theorem cnt_two : ∀ q : Fin 14, cnt (2 ^ q.val) = 1 := by decide
theorem TR.addJ {T : TB} (hW : WFT T) {f f' : Nat → Int32} {q : Nat} (hT : TR T f) (hq : q < 14) (hb : T.2.2.2.testBit q = false) (g16 : f' 16 = nI (T.2.2.2 ||| 2 ^ q)) (g6 : f' 6 = nI (cnt T.2.2.2 + 1)) (go : ∀ i, i ≠ 16 → i ≠ 6 → f' i = f i) : TR (addJ T q) f' := by
  obtain ⟨⟨a1, a2, a3⟩, ⟨b1, b2, b3⟩, ⟨c1, c2⟩, e1, e2, e3, e4⟩ := hT
  have hc : cnt (T.2.2.2 ||| 2 ^ q) = cnt T.2.2.2 + 1 := by
    rw [cnt_or ((fb_bit_nat _ _).mpr hb), cnt_two ⟨q, hq⟩]
  have hb3 := hW.1.1
  refine ⟨⟨(go _ (by decide) (by decide)).trans a1, (go _ (by decide) (by decide)).trans a2, (go _ (by decide) (by decide)).trans a3⟩, ⟨(go _ (by decide) (by decide)).trans b1, (go _ (by decide) (by decide)).trans b2, (go _ (by decide) (by decide)).trans b3⟩, ⟨by rw [g6]; exact congrArg nI hc.symm, g16⟩, fun k b hk => ?_, fun k p hk => ?_, fun n w hw => ?_, fun n hn hw => ?_⟩
  · obtain ⟨q1, q2, q3⟩ := e1 k b hk
    have hk3 := (List.getElem?_eq_some_iff.mp hk).1
    have hk3' : k < T.2.1.length := hk3
    exact ⟨(go _ (by omega) (by omega)).trans q1, (go _ (by omega) (by omega)).trans q2, (go _ (by omega) (by omega)).trans q3⟩
  · obtain ⟨q1, q2, q3, q4, q5⟩ := e2 k p hk
    exact ⟨(go _ (by omega) (by omega)).trans q1, (go _ (by omega) (by omega)).trans q2, (go _ (by omega) (by omega)).trans q3, (go _ (by omega) (by omega)).trans q4, (go _ (by omega) (by omega)).trans q5⟩
  · obtain ⟨q1, q2⟩ := e3 n w hw
    exact ⟨(go _ (by omega) (by omega)).trans q1, fun i hi => (go _ (by omega) (by omega)).trans (q2 i hi)⟩
  · exact (go _ (by omega) (by omega)).trans (e4 n hn hw)
theorem nms_P {T : TB} {p : PC} (n : Nat) : nms (addP T p) n = if n = 3 + T.2.2.1.length then some p.2.2.2.2.2 else nms T n := by
  unfold nms addP
  by_cases h3 : n < 3
  · rw [if_pos h3, if_pos h3, if_neg (by omega)]
  · rw [if_neg h3, if_neg h3]
    by_cases e : n = 3 + T.2.2.1.length
    · subst e; simp
    · rw [if_neg e]
      by_cases hl : n - 3 < T.2.2.1.length
      · rw [List.getElem?_append_left hl]
      · rw [List.getElem?_eq_none (by simp; omega), List.getElem?_eq_none (by omega)]
theorem TR.addP {T : TB} (hW : WFT T) {f f1 f' : Nat → Int32} {p : PC} (hT : TR T f) (hb : T.2.2.1.length < 4) (hn : NP f f1 (3 + T.2.2.1.length) p.2.2.2.2.2) (hnm : p.2.2.2.2.2.length ≤ 8) (g4 : f' 4 = nI (T.2.2.1.length + 1)) (g17 : f' (17 + T.2.2.1.length) = nI p.1) (g21 : f' (21 + T.2.2.1.length) = nI p.2.1) (g25 : f' (25 + T.2.2.1.length) = nI p.2.2.1) (g29 : f' (29 + T.2.2.1.length) = bi p.2.2.2.1) (g33 : f' (33 + T.2.2.1.length) = nI p.2.2.2.2.1) (go : ∀ i, i ≠ 4 → i ≠ 17 + T.2.2.1.length → i ≠ 21 + T.2.2.1.length → i ≠ 25 + T.2.2.1.length → i ≠ 29 + T.2.2.1.length → i ≠ 33 + T.2.2.1.length → f' i = f1 i) : TR (addP T p) f' := by
  obtain ⟨⟨a1, a2, a3⟩, ⟨b1, b2, b3⟩, ⟨c1, c2⟩, e1, e2, e3, e4⟩ := hT
  obtain ⟨n1, n2, n3⟩ := hn
  have hb3 := hW.1.1
  have k0 : ∀ i, i < 37 → i ≠ 4 → i ≠ 17 + T.2.2.1.length → i ≠ 21 + T.2.2.1.length → i ≠ 25 + T.2.2.1.length → i ≠ 29 + T.2.2.1.length → i ≠ 33 + T.2.2.1.length → f' i = f i := fun i h1 h2 h3 h4 h5 h6 h7 => (go i h2 h3 h4 h5 h6 h7).trans (n3 i (by omega) (by omega))
  have k1 : ∀ i, i < 17 → i ≠ 4 → f' i = f i := fun i h1 h2 => k0 i (by omega) h2 (by omega) (by omega) (by omega) (by omega) (by omega)
  refine ⟨⟨(k1 0 (by decide) (by decide)).trans a1, (k1 1 (by decide) (by decide)).trans a2, (k1 2 (by decide) (by decide)).trans a3⟩, ⟨(k1 3 (by decide) (by decide)).trans b1, ?_, (k1 5 (by decide) (by decide)).trans b3⟩, ⟨(k1 6 (by decide) (by decide)).trans c1, (k1 16 (by decide) (by decide)).trans c2⟩, fun k b hk => ?_, fun k q hk => ?_, fun n q hq => ?_, fun n hn7 hq => ?_⟩
  · rw [g4]; simp [Jvm.Pilot.CCoinsLaidLaw_law_r4080_fdb2f8.addP]
  · obtain ⟨q1, q2, q3⟩ := e1 k b hk
    have hk3 : k < T.2.1.length := (List.getElem?_eq_some_iff.mp hk).1
    exact ⟨(k1 _ (by omega) (by omega)).trans q1, (k1 _ (by omega) (by omega)).trans q2, (k1 _ (by omega) (by omega)).trans q3⟩
  · simp only [Jvm.Pilot.CCoinsLaidLaw_law_r4080_fdb2f8.addP] at hk
    by_cases hl : k < T.2.2.1.length
    · rw [List.getElem?_append_left hl] at hk
      obtain ⟨q1, q2, q3, q4, q5⟩ := e2 k q hk
      exact ⟨(k0 _ (by omega) (by omega) (by omega) (by omega) (by omega) (by omega) (by omega)).trans q1, (k0 _ (by omega) (by omega) (by omega) (by omega) (by omega) (by omega) (by omega)).trans q2, (k0 _ (by omega) (by omega) (by omega) (by omega) (by omega) (by omega) (by omega)).trans q3, (k0 _ (by omega) (by omega) (by omega) (by omega) (by omega) (by omega) (by omega)).trans q4, (k0 _ (by omega) (by omega) (by omega) (by omega) (by omega) (by omega) (by omega)).trans q5⟩
    · have := (List.getElem?_eq_some_iff.mp hk).1
      rw [List.length_append, List.length_cons, List.length_nil] at this
      obtain rfl : k = T.2.2.1.length := by omega
      simp only [List.getElem?_concat_length, Option.some.injEq] at hk
      subst hk
      exact ⟨g17, g21, g25, g29, g33⟩
  · rw [nms_P n] at hq
    split at hq
    · rename_i h; subst h
      cases hq
      exact ⟨(go _ (by omega) (by omega) (by omega) (by omega) (by omega) (by omega)).trans n1, fun i hi => (go _ (by omega) (by omega) (by omega) (by omega) (by omega) (by omega)).trans (n2 i hi)⟩
    · rename_i hne
      obtain ⟨q1, q2⟩ := e3 n q hq
      have hq8 := (nms_NM hW hq).1.2.1
      have hn7 := (nms_NM hW hq).2
      exact ⟨((go _ (by omega) (by omega) (by omega) (by omega) (by omega) (by omega)).trans (n3 _ (by omega) (by omega))).trans q1, fun i hi => ((go _ (by omega) (by omega) (by omega) (by omega) (by omega) (by omega)).trans (n3 _ (by omega) (by omega))).trans (q2 i hi)⟩
  · rw [nms_P n] at hq
    split at hq
    · cases hq
    · exact ((go _ (by omega) (by omega) (by omega) (by omega) (by omega) (by omega)).trans (n3 _ (by omega) (by omega))).trans (e4 n hn7 hq)
