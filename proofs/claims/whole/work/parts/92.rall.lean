/-! READING a text: lays, the end, all its lines -/
/-- the region lies there -/
def RG (P : Nat → Nat) (C : Nat → CE) (σ : Hp) : Prop := ∀ k, k < 75 → σ (P k) = some (C k)
section RGS
variable {P : Nat → Nat} {C C' : Nat → CE} {σ σ' : Hp} {S : Nat → Prop} {Q Q' : Nat → Prop} {X : TX} {T : TB}
theorem RG.c (h : RG P C σ) : ch 75 P C σ = σ := ch_self h
theorem RG.kp (h : RG P C σ) (hk : Kp S σ σ') (hS : ∀ k, k < 75 → ¬ S (P k)) : RG P C σ' := fun k h1 => hk.at (h k h1) (hS k h1)
theorem RG.new (hB : okB 75 P) : RG P C' (ch 75 P C' σ) := fun k hk => ch_a hB hk
/-- but two cells of it -/
theorem RG.kk (h : RG P C σ) (hB : okB 75 P) {k : Nat} (hc : Ck k (k + 1) C C') : Kp (fun q => q = P k ∨ q = P (k + 1)) σ (ch 75 P C' σ) := by
  have hx : ∀ q, (∃ j, j < 75 ∧ P j = q) ∨ outB 75 P q := fun q => by
    by_cases e : ∃ j, j < 75 ∧ P j = q
    · exact Or.inl e
    · exact Or.inr fun j hj e2 => e ⟨j, hj, e2⟩
  refine ⟨fun q hq => ?_, fun q hq hs => ?_⟩
  · rcases hx q with ⟨j, hj, rfl⟩ | ho
    · rw [ch_a hB hj]; simp
    · rw [ch_r ho]; exact hq
  · rcases hx q with ⟨j, hj, rfl⟩ | ho
    · have n1 : j ≠ k := fun e => hs (Or.inl (by rw [e]))
      have n2 : j ≠ k + 1 := fun e => hs (Or.inr (by rw [e]))
      rw [ch_a hB hj, h j hj, hc j (by omega)]
    · rw [ch_r ho]
theorem LST.kp {a n : Nat} {f : Nat → Nat} (h : LST Q σ a n f) (hk : Kp S σ σ') (hS : ∀ q, Q q → ¬ S q) : LST Q σ' a n f := by
  obtain ⟨h1, md, da, N, g, h2, h3, h4, h5⟩ := h
  exact ⟨h1, md, da, N, g, hk.at h2 (hS _ h1), h3, hk.at h4 (hS _ h3), h5⟩
theorem TBr.kp (h : TBr Q σ X T) (hk : Kp S σ σ') (hS : ∀ q, Q q → ¬ S q) : TBr Q σ' X T := by
  obtain ⟨⟨a1, a2⟩, b, c, e, f, ⟨g1, g, g2, g3⟩, i⟩ := h
  refine ⟨⟨a1, hk.at a2 (hS _ a1)⟩, b.kp hk hS, c.kp hk hS, fun k b hb => ?_, fun k p hp => ?_, ⟨g1, g, hk.at g2 (hS _ g1), g3⟩, fun k l hl => ?_⟩
  · obtain ⟨q, nm, h⟩ := e k b hb
    exact ⟨q, nm, hk.at h (hS _ q)⟩
  · obtain ⟨q, nm, h⟩ := f k p hp
    exact ⟨q, nm, hk.at h (hS _ q)⟩
  · obtain ⟨q, h⟩ := i k l hl
    exact ⟨q, hk.at h (hS _ q)⟩
theorem LST.sb {a n : Nat} {f : Nat → Nat} (h : LST Q σ a n f) (hq : ∀ q c, Q q → σ q = some c → tgc c ≠ 9 ∧ tgc c ≠ 10 → Q' q) : LST Q' σ a n f := by
  obtain ⟨h1, md, da, N, g, h2, h3, h4, h5⟩ := h
  exact ⟨hq _ _ h1 h2 (show (13 : Nat) ≠ 9 ∧ (13 : Nat) ≠ 10 by decide), md, da, N, g, h2, hq _ _ h3 h4 (show (100 : Nat) ≠ 9 ∧ (100 : Nat) ≠ 10 by decide), h4, h5⟩
theorem TBr.sb (h : TBr Q σ X T) (hq : ∀ q c, Q q → σ q = some c → tgc c ≠ 9 ∧ tgc c ≠ 10 → Q' q) : TBr Q' σ X T := by
  obtain ⟨⟨a1, a2⟩, b, c, e, f, ⟨g1, g, g2, g3⟩, i⟩ := h
  refine ⟨⟨hq _ _ a1 a2 (show (8 : Nat) ≠ 9 ∧ (8 : Nat) ≠ 10 by decide), a2⟩, b.sb hq, c.sb hq, fun k b hb => ?_, fun k p hp => ?_, ⟨hq _ _ g1 g2 (show (100 : Nat) ≠ 9 ∧ (100 : Nat) ≠ 10 by decide), g, g2, g3⟩, fun k l hl => ?_⟩
  · obtain ⟨q, nm, h⟩ := e k b hb
    exact ⟨hq _ _ q h (show (0 : Nat) ≠ 9 ∧ (0 : Nat) ≠ 10 by decide), nm, h⟩
  · obtain ⟨q, nm, h⟩ := f k p hp
    exact ⟨hq _ _ q h (show (5 : Nat) ≠ 9 ∧ (5 : Nat) ≠ 10 by decide), nm, h⟩
  · obtain ⟨q, h⟩ := i k l hl
    exact ⟨hq _ _ q h (show (2 : Nat) ≠ 9 ∧ (2 : Nat) ≠ 10 by decide), h⟩
theorem LDr.nil {xl xl' : Nat → Nat} {L L' : List LY} {k s : Nat} (h : LDr P xl L C k ([], s)) : LDr P xl' L' C k ([], s) := ⟨h.1, h.2.1.elim fun f hf => ⟨f, hf.1, fun i n hi => by simp at hi⟩, h.2.2⟩
end RGS
section RSS
variable {Fl : Nat → Nat → Prop} {Gd : Nat → TB → List Nat → Prop} {B : Nat → Nat} {N a c : Nat} {r : PR}
theorem RS.pg (h : RS Fl Gd r) (hp : PG N c r) : RS Fl (fun a T ls => Gd a T ls ∧ PI N a T ls) r := by
  cases r with
  | inl x => exact h
  | inr x => exact ⟨h, hp.2⟩
end RSS
/-- a table told, its lays not made yet, or made -/
def TBo (G : GG) (W : Nat → Prop) (te tk : Nat) (σ : Hp) (X : TX) (T : TB) (ls : List Nat) : Prop := (ls = [] ∧ ∃ dB dP la, TBb G W σ X dB dP false la T) ∨ (ls ≠ [] ∧ TBr (fun q => W q ∧ q ≠ te ∧ q ≠ tk) σ X T)
def RDS (G : GG) (W : Nat → Prop) (P : Nat → Nat) (te tk : Nat) (B : Nat → Nat) (N : Nat) (σ : Hp) (C : Nat → CE) (X : TX) (T : TB) (ls : List Nat) (a : Nat) : Prop := ∃ nm pf ps, TSt σ te tk (P 1) (P 14) (xT X) B N a nm pf ps ∧ CX G W σ te tk ∧ RG P C σ ∧ LDr P (xl X) (allL T) C 14 (ls, 0) ∧ TBo G W te tk σ X T ls
/-- what reading may write -/
def WL (W : Nat → Prop) (G : GG) (P : Nat → Nat) : Nat → Prop := fun q => W0 W G q ∨ q = P 14 ∨ q = P 15
section RAL
variable {l : Launch} {G : GG} {d mc ms : Nat} {W : Nat → Prop} {σ σ' : Hp} {P : Nat → Nat} {C C' : Nat → CE} {te tk : Nat} {B : Nat → Nat} {N a : Nat} {nm : Int64} {pf ps : Int32} {X : TX} {T : TB} {ls : List Nat} {K : Bool → Hp → Prop} {Fl : Nat → Nat → Prop} {Gd : Nat → TB → List Nat → Prop}
theorem TBo.o8 (h : TBo G W te tk σ X T ls) : ∃ mk la, mk = !ls.isEmpty ∧ W (xT X) ∧ σ (xT X) = some (O8 T.1.1 T.1.2.1 T.1.2.2 (some (xB X)) (some (xP X)) (nI (nsq T.2.1)) (nI T.2.2.2) mk (some la)) := by
  rcases h with ⟨rfl, dB, dP, la, h⟩ | ⟨h0, h⟩
  · exact ⟨false, la, rfl, h.1.1, h.1.2⟩
  · refine ⟨true, _, ?_, h.1.1.1, h.1.2⟩
    cases ls with
    | nil => exact absurd rfl h0
    | cons x xs => rfl
theorem TBo.lb (h : TBo G W te tk σ X T ls) (hW : WFT T) : ∃ Q, LST Q σ (xB X) T.2.1.length (xb X) := by
  rcases h with ⟨rfl, dB, dP, la, h⟩ | ⟨h0, h⟩
  · exact ⟨_, h.lb hW⟩
  · exact ⟨_, h.2.1⟩
theorem TBo.lp (h : TBo G W te tk σ X T ls) (hW : WFT T) : ∃ Q, LST Q σ (xP X) T.2.2.1.length (xp X) := by
  rcases h with ⟨rfl, dB, dP, la, h⟩ | ⟨h0, h⟩
  · exact ⟨_, h.lp hW⟩
  · exact ⟨_, h.2.2.1⟩
theorem TBo.k9 (h : TBo G W te tk σ X T ls) (ht : ∀ z, S9 te tk z → tg σ z 9 ∨ tg σ z 10) (hk : Kp (S9 te tk) σ σ') : TBo G W te tk σ' X T ls := by
  rcases h with ⟨rfl, dB, dP, la, h⟩ | ⟨h0, h⟩
  · exact Or.inl ⟨rfl, dB, dP, la, h.k9 hk ht⟩
  · exact Or.inr ⟨h0, h.kp hk fun q hq hs => hs.elim hq.2.1 hq.2.2⟩
theorem s_mkL (h : TBo G W te tk σ X T ls) (hC : CX G W σ te tk) (ht9 : tg σ te 9) (ht10 : tg σ tk 10) (hW : WFT T) (hm : ls = [] → 460 ≤ mc ∧ 3000 ≤ ms) {K : Hp → Prop} (hK : ∀ σ' X', xT X' = xT X → Kp (W0 W G) σ σ' → Kp (fun z => z = xT X) σ σ' → TBr (fun q => W q ∧ q ≠ te ∧ q ≠ tk) σ' X' T → (ls = [] ∨ X' = X) → K σ') : C_X8_makeLays l G (d + 12) mc ms (xT X) σ K := by
  rcases h with ⟨rfl, dB, dP, la, h⟩ | ⟨h0, h⟩
  · obtain ⟨m1, m2⟩ := hm rfl
    have t8 := h.tt.1
    refine s_X8_makeLays (d := d) h hC.1 hC.2.1 hW m1 m2 fun σ' X' x1 k1 hX => hK σ' X' x1 (k1.mo fun q _ e => by subst e; exact ⟨h.1.1, hC.ne t8 (by decide)⟩) k1 (hX.sb fun q c hq hc hn => ⟨hq, ?_, ?_⟩) (Or.inl rfl)
    · intro e
      obtain ⟨c', h1, h2⟩ := ht9
      have h3 := k1.at h1 (tg_ne ⟨_, h1, h2⟩ t8 (by decide))
      rw [← e, hc] at h3
      cases h3
      exact hn.1 h2
    · intro e
      obtain ⟨c', h1, h2⟩ := ht10
      have h3 := k1.at h1 (tg_ne ⟨_, h1, h2⟩ t8 (by decide))
      rw [← e, hc] at h3
      cases h3
      exact hn.2 h2
  · exact s_X8_makeLays1 (d := d + 11) h (hK σ X rfl Kp.rf Kp.rf h (Or.inr rfl))
theorem LDr.sw {xl xl' : Nat → Nat} {L : List LY} {k s : Nat} (h : LDr P xl L C k (ls, s)) (h' : ls = [] ∨ xl' = xl) : LDr P xl' L C k (ls, s) := by
  rcases h' with rfl | rfl
  · exact h.nil
  · exact h
theorem s_X9_readLay (hB : okB 75 P) (hWP : ∀ k, k < 75 → ¬ W (P k)) (hs : RDS G W P te tk B N σ C X T ls a) (hI : PI N a T ls) (h1 : eK B N a ≠ 1) (hm : ls = [] → 460 ≤ mc ∧ 3000 ≤ ms) (hR : RS Fl Gd (ck (decide (ls.length < 8)) 5 a (ck T.1.1 6 a (layL B N (nx B N a) T ls)))) (hF : ∀ f p, Fl f p → ∀ σ', Kp (W0 W G) σ σ' → FLt σ' te f p → K false σ') (hK : ∀ σ' C' X' a' ls', Gd a' T ls' → Kp (WL W G P) σ σ' → Ck 14 15 C C' → RDS G W P te tk B N σ' C' X' T ls' a' → ls' ≠ [] → K true σ') : C_X9_readLay l G (d + 13) mc ms te σ K := by
  obtain ⟨nm, pf, ps, h, hC, hG, hL, hT⟩ := hs
  obtain ⟨-, hW, hGD, hI4, hI5⟩ := hI
  have h14 : σ (P 14) = some (O1 (some (P 15)) (nI ls.length) (nI (tkn (allL T) ls)) (nI 0)) := (hG 14 (by decide)).trans (congrArg some hL.1)
  obtain ⟨mk, la, hmk, hx, h8⟩ := hT.o8
  obtain ⟨r1, r2⟩ := hR.ck
  refine m_X9_readLay h.rv9 ?_
  simp only [F_X9_readLay, h.n1, fI_at (h14), fZ_at (h14), fJ_at (h14), fR_at (h14), fN_at (h14), pF_at (h14), rR1_0, rN1_0, rP1_0, rI1_1, rP1_1, rI1_2, rP1_2, rI1_3, rP1_3]
  rw [show (8 : Int32) = nI 8 from rfl, nt_lt (by omega) (by decide)]
  refine ⟨fun e => ?_, fun e => s_X9_fail (d := d + 11) (f := 5) h fun σ' k f => hF 5 a (r2 (decide_eq_false e)) σ' (hC.s9 k) f⟩
  obtain ⟨r3, r4⟩ := (r1 (decide_eq_true e)).ck
  simp only [h.n2, fI_at (h8), fZ_at (h8), fJ_at (h8), fR_at (h8), fN_at (h8), pF_at (h8), rZ8_0, rP8_0, rZ8_1, rP8_1, rZ8_2, rP8_2, rR8_3, rN8_3, rP8_3, rR8_4, rN8_4, rP8_4, rI8_5, rP8_5, rI8_6, rP8_6, rZ8_7, rP8_7, rR8_8, rN8_8, rP8_8, h.n0]
  refine ⟨fun e2 => ?_, fun e2 => s_X9_fail (d := d + 11) (f := 6) h fun σ' k f => hF 6 a (r4 e2) σ' (hC.s9 k) f⟩
  refine s_adv (d := d + 9) h h1 fun σ1 k1 g1 => ?_
  have hT1 := hT.k9 (S9.t h) k1
  have hC1 := hC.kp (hC.s9 k1)
  have hkl := kd_lt (B := B) (N := N) (a := nx B N a)
  have r := r3 e2
  unfold layL at r
  obtain ⟨r5, r6⟩ := r.ck
  simp only [g1.n0, g1.kd]
  rw [show (2 : Int32) = nI 2 from rfl, nt_eq (by omega) (by decide), kd_2]
  refine ⟨fun e3 => ?_, fun e3 => s_X9_fail (d := d + 11) (f := 1) g1 fun σ' k f => hF 1 _ (r6 (decide_eq_false e3)) σ' (hC.s9 (k1.tr k)) f⟩
  have r7 := r5 (decide_eq_true e3)
  simp only [g1.n2]
  refine ⟨mc, ms, Nat.le_refl _, Nat.le_refl _, s_mkL (d := d) hT1 hC1 g1.tt.1 g1.tt.2.1 hW hm fun σ2 X2 x2 k2 k2' hX2 hls => ?_⟩
  have hn := g1.nt (show tg σ1 (xT X) 8 by obtain ⟨_, _, _, _, h9⟩ := hT1.o8; exact ⟨_, h9, rfl⟩)
  have g2 : TSt σ2 te tk (P 1) (P 14) (xT X2) B N (nx B N a) nm pf ps := by rw [x2]; exact g1.kp k2' (Ne.symm hn.1) (Ne.symm hn.2.1) (Ne.symm hn.2.2)
  have k02 := (hC.s9 k1).tr k2
  have hG2 := hG.kp k02 fun k hk e => hWP k hk e.1
  have hC2 := hC.kp k02
  have hL2 : LDr P (xl X2) (allL T) C 14 (ls, 0) := hL.sw (hls.imp id fun e => by rw [e])
  have h14' : σ2 (P 14) = some (O1 (some (P 15)) (nI ls.length) (nI (tkn (allL T) ls)) (nI 0)) := (hG2 14 (by decide)).trans (congrArg some hL.1)
  simp only [g2.n2, g2.n0]
  refine s_X10_wholeValue (d := d + 10) g2.1 g2.2.2.2 g2.2.1 e3 ?_
  have hv := tV_lt g2.1.2.1 g2.2.2.2 e3
  have h224 := allL_224 hW
  refine s_X8_layNumbered (d := d + 11) hX2 hW ?_
  rw [ix_nI (by omega) (by omega)]
  have f106 : ∀ σ3, TSt σ3 te tk (P 1) (P 14) (xT X2) B N (nx B N a) nm pf ps → Kp (W0 W G) σ σ3 → Fl 7 (nx B N a) → F_X9_readLay_106 l G (d + 12) te σ3 (mc - mc) (ms - ms) K := by
    intro σ3 g3 k3 hf
    simp only [F_X9_readLay_106]
    exact s_X9_fail (d := d + 11) (f := 7) g3 fun σ' k f => hF 7 _ hf σ' (k3.tr (hC.s9 k)) f
  cases he : (allL T)[tV B N (nx B N a)]? with
  | none =>
    rw [he] at r7
    rw [if_neg (by rw [List.getElem?_eq_none_iff] at he; omega)]
    exact ⟨fun _ => f106 σ2 g2 k02 r7, fun b hb => by cases hb⟩
  | some e =>
    rw [he] at r7
    have hlt := (List.getElem?_eq_some_iff.mp he).1
    rw [if_pos hlt]
    refine ⟨fun hc => (by cases hc), fun b hb => ?_⟩
    simp only [Option.map_some, Option.some.injEq] at hb
    subst hb
    obtain ⟨r8, r9⟩ := RS.ck r7
    simp only [g2.n1, fI_at (h14'), fZ_at (h14'), fJ_at (h14'), fR_at (h14'), fN_at (h14'), pF_at (h14'), rR1_0, rN1_0, rP1_0, rI1_1, rP1_1, rI1_2, rP1_2, rI1_3, rP1_3]
    have htk := tkn_lt (allL_VL hW) ls
    have hnext : ∀ {K : Int32 → Hp → Prop}, K (nI (ls.length % 2)) σ2 → C_X1_next l G (d + 12) (P 14) σ2 K := fun {K} hK => by
      have h9 := s_X1_next (l := l) (G := G) (d := d + 11) (τ := σ2) hB (show 14 < 75 by decide) hL2 (K := K)
      rw [hG2.c] at h9
      exact h9 hK
    refine hnext (hX2.my (d := d + 10) hW he (by omega) (Nat.mod_lt _ (by decide)) ⟨fun e4 => ?_, fun e4 => f106 σ2 g2 k02 (r9 e4)⟩)
    have r10 := r8 e4
    simp only [g2.n1]
    obtain ⟨q1, q2⟩ := hX2.2.2.2.2.2.2 _ _ he
    have hadd := s_X1_add (l := l) (G := G) (d := d + 11) (τ := σ2) (k := 14) hB (by decide) hL2 (fun k hk e => hWP k hk (e ▸ q1.1)) q2 he (show ls.length ≤ 13 by omega)
      (K := fun σ32 => fN σ32 te 9 0 fun x34 => C_X10_advance l G (d + 12) x34 σ32 fun σ35 => K true σ35)
    rw [hG2.c] at hadd
    refine hadd fun C' c1 hL3 => ?_
    have k3 := hG2.kk hB c1
    have hw : ∀ q, W q → ¬ (q = P 14 ∨ q = P 15) := fun q hq hs => hs.elim (fun e => hWP 14 (by decide) (e ▸ hq)) fun e => hWP 15 (by decide) (e ▸ hq)
    have hgE : ¬ (gE G = P 14 ∨ gE G = P 15) := by
      rintro (e | e)
      · have := hC2.1
        rw [e, h14'] at this
        cases this
      · obtain ⟨f, hf, -⟩ := hL2.2.1
        have := hC2.1
        rw [e, hG2 15 (by decide), hf] at this
        cases this
    have g3 := g2.kp k3 (hw _ hC2.2.2.1.1) (hw _ hC2.2.2.2.1) fun hs => hs.elim (fun e => absurd (hB 1 14 (by decide) (by decide) e) (by decide)) fun e => absurd (hB 1 15 (by decide) (by decide) e) (by decide)
    have hC3 : CX G W (ch 75 P C' σ2) te tk := ⟨k3.at hC2.1 hgE, fun q hq => hC2.2.1 q (k3.fr hq), hC2.2.2⟩
    have hX3 := hX2.kp k3 fun q hq => hw q hq.1
    have hG3 : RG P C' (ch 75 P C' σ2) := RG.new hB
    have k03 : Kp (WL W G P) σ (ch 75 P C' σ2) := (k02.mo (S' := WL W G P) fun q _ h => Or.inl h).tr (k3.mo fun q _ h => Or.inr h)
    simp only [g3.n0]
    refine s_adv (d := d + 9) g3 (by omega) fun σ4 k4 g4 => ?_
    have hC4 := hC3.kp (hC3.s9 k4)
    refine hK σ4 C' X2 _ (ls ++ [tV B N (nx B N a)]) r10 (k03.tr ((hC3.s9 k4).mo fun q _ h => Or.inl h)) c1 ⟨nm, pf, ps, g4, hC4, hG3.kp (hC3.s9 k4) fun k hk e => hWP k hk e.1, hL3, Or.inr ⟨by simp, hX3.kp k4 fun q hq hs => hs.elim hq.2.1 hq.2.2⟩⟩ (by simp)
theorem s_X9_readEnd (hs : RDS G W P te tk B N σ C X T ls a) (hWP : ∀ k, k < 75 → ¬ W (P k)) (hW : WFT T) (hm : ls = [] → 460 ≤ mc ∧ 3000 ≤ ms) (hR : RS Fl Gd (endL a T ls)) (hF : ∀ f p, Fl f p → ∀ σ', Kp (W0 W G) σ σ' → FLt σ' te f p → K false σ') (hK : ∀ σ' X' nm pf ps, Gd a T ls → Kp (W0 W G) σ σ' → RG P C σ' → TE σ' te tk (P 14) (xT X') nm pf ps → LDr P (xl X') (allL T) C 14 (ls, 0) → TBr (fun q => W q ∧ q ≠ te ∧ q ≠ tk) σ' X' T → K true σ') : C_X9_readEnd l G (d + 13) mc ms te σ K := by
  obtain ⟨nm, pf, ps, h, hC, hG, hL, hT⟩ := hs
  obtain ⟨mk, la, hmk, hx, h8⟩ := hT.o8
  obtain ⟨Q1, hb⟩ := hT.lb hW
  obtain ⟨Q2, hp⟩ := hT.lp hW
  unfold endL at hR
  obtain ⟨r1, r2⟩ := hR.ck
  have f36 : (T.1.1 && (!T.2.1.isEmpty && !T.2.2.1.isEmpty)) = false → F_X9_readEnd_36 l G (d + 12) te σ mc ms K := by
    intro e
    simp only [F_X9_readEnd_36]
    exact s_X9_fail (d := d + 11) (f := 6) h fun σ' k f => hF 6 a (r2 e) σ' (hC.s9 k) f
  have hem : ∀ {α : Type} (L : List α), decide (L.length = 0) = L.isEmpty := fun L => by cases L <;> simp
  refine m_X9_readEnd h.rv9 ?_
  simp only [F_X9_readEnd, h.n2, fI_at (h8), fZ_at (h8), fJ_at (h8), fR_at (h8), fN_at (h8), pF_at (h8), rZ8_0, rP8_0, rZ8_1, rP8_1, rZ8_2, rP8_2, rR8_3, rN8_3, rP8_3, rR8_4, rN8_4, rP8_4, rI8_5, rP8_5, rI8_6, rP8_6, rZ8_7, rP8_7, rR8_8, rN8_8, rP8_8]
  refine ⟨fun e => f36 (by rw [e]; rfl), fun e1 => s_isEmpty (d := d + 11) hb ?_⟩
  rw [hem]
  refine ⟨fun e => f36 (by rw [e, e1]; rfl), fun e2 => ?_⟩
  simp only [h.n2, fI_at (h8), fZ_at (h8), fJ_at (h8), fR_at (h8), fN_at (h8), pF_at (h8), rZ8_0, rP8_0, rZ8_1, rP8_1, rZ8_2, rP8_2, rR8_3, rN8_3, rP8_3, rR8_4, rN8_4, rP8_4, rI8_5, rP8_5, rI8_6, rP8_6, rZ8_7, rP8_7, rR8_8, rN8_8, rP8_8]
  refine s_isEmpty (d := d + 11) hp ?_
  rw [hem]
  refine ⟨fun e3 => ?_, fun e => f36 (by rw [e, e1, e2]; rfl)⟩
  simp only [h.n2]
  refine ⟨mc, ms, Nat.le_refl _, Nat.le_refl _, s_mkL (d := d) hT hC h.tt.1 h.tt.2.1 hW hm fun σ2 X2 x2 k2 k2' hX2 hls => ?_⟩
  have hn := h.nt ⟨_, h8, rfl⟩
  have g2 : TSt σ2 te tk (P 1) (P 14) (xT X2) B N a nm pf ps := by rw [x2]; exact h.kp k2' (Ne.symm hn.1) (Ne.symm hn.2.1) (Ne.symm hn.2.2)
  exact hK σ2 X2 nm pf ps (r1 (by rw [e1, e2, e3]; rfl)) k2 (hG.kp k2 fun k hk e => hWP k hk e.1) g2.2.2.1 (hL.sw (hls.imp id fun e => by rw [e])) hX2
/-- lines that no lay may be told ahead of -/
theorem s_X9_bd1 (h : TSt σ te tk (P 1) (P 14) (xT X) B N a nm pf ps) (hT : TBo G W te tk σ X T ls) (hC : CX G W σ te tk) (hW : WFT T) (hl : ls ≠ []) (h1 : eK B N a ≠ 1) {k : PR} (hR : RS Fl Gd (ck (decide (T.2.1.length < 3)) 5 a (ck ls.isEmpty 6 a k))) (hF : ∀ f p, Fl f p → ∀ σ', Kp (W0 W G) σ σ' → FLt σ' te f p → K false σ') : C_X9_readBoard l G (d + 12) mc ms te σ K := by
  obtain ⟨mk, la, hmk, hx, h8⟩ := hT.o8
  have hle : ls.isEmpty = false := by cases ls with
    | nil => exact absurd rfl hl
    | cons x xs => rfl
  rw [hle] at hmk
  subst hmk
  obtain ⟨Q1, hb⟩ := hT.lb hW
  have h3 := hW.1.1
  obtain ⟨r1, r2⟩ := hR.ck
  refine m_X9_readBoard h.rv9 ?_
  simp only [F_X9_readBoard, h.n2, fN_at h8, rZ8_0, rP8_0, rZ8_1, rP8_1, rZ8_2, rP8_2, rR8_3, rN8_3, rP8_3, rR8_4, rN8_4, rP8_4, rI8_5, rP8_5, rI8_6, rP8_6, rZ8_7, rP8_7, rR8_8, rN8_8, rP8_8]
  refine s_size (d := d + 10) hb ?_
  have f20 : ∀ b, b = decide (T.2.1.length < 3) → F_X9_readBoard_20 l G (d + 11) te te b σ mc ms K := by
    intro b hb
    subst hb
    simp only [F_X9_readBoard_20, F_X9_readBoard_33]
    exact s_X9_passFirstWord (d := d + 7) h h1 h8 (fun _ hc => by cases hc) (fun e1 σ1 k1 f1 => ⟨fun _ => hF 5 a (r2 e1) σ1 (hC.s9 k1) f1, fun hc => by cases hc⟩) fun e1 _ σ1 k1 f1 => ⟨fun _ => hF 6 a ((r1 e1).ck.2 hle) σ1 (hC.s9 k1) f1, fun hc => by cases hc⟩
  rw [show (3 : Int32) = nI 3 from rfl, nt_le (by decide) (by omega)]
  exact ⟨fun e => f20 false (by rw [decide_eq_false]; omega), fun e => f20 true (by rw [decide_eq_true]; omega)⟩
theorem s_X9_pc1 (h : TSt σ te tk (P 1) (P 14) (xT X) B N a nm pf ps) (hT : TBo G W te tk σ X T ls) (hC : CX G W σ te tk) (hW : WFT T) (hl : ls ≠ []) (h1 : eK B N a ≠ 1) {k : PR} (hR : RS Fl Gd (ck (decide (T.2.2.1.length < 4)) 5 a (ck ls.isEmpty 6 a k))) (hF : ∀ f p, Fl f p → ∀ σ', Kp (W0 W G) σ σ' → FLt σ' te f p → K false σ') : C_X9_readPiece l G (d + 12) mc ms te σ K := by
  obtain ⟨mk, la, hmk, hx, h8⟩ := hT.o8
  have hle : ls.isEmpty = false := by cases ls with
    | nil => exact absurd rfl hl
    | cons x xs => rfl
  rw [hle] at hmk
  subst hmk
  obtain ⟨Q1, hb⟩ := hT.lp hW
  have h3 := hW.2.1.1
  obtain ⟨r1, r2⟩ := hR.ck
  refine m_X9_readPiece h.rv9 ?_
  simp only [F_X9_readPiece, h.n2, fN_at h8, rZ8_0, rP8_0, rZ8_1, rP8_1, rZ8_2, rP8_2, rR8_3, rN8_3, rP8_3, rR8_4, rN8_4, rP8_4, rI8_5, rP8_5, rI8_6, rP8_6, rZ8_7, rP8_7, rR8_8, rN8_8, rP8_8]
  refine s_size (d := d + 10) hb ?_
  have f20 : ∀ b, b = decide (T.2.2.1.length < 4) → F_X9_readPiece_20 l G (d + 11) te te b σ mc ms K := by
    intro b hb
    subst hb
    simp only [F_X9_readPiece_20, F_X9_readPiece_33]
    exact s_X9_passFirstWord (d := d + 7) h h1 h8 (fun _ hc => by cases hc) (fun e1 σ1 k1 f1 => ⟨fun _ => hF 5 a (r2 e1) σ1 (hC.s9 k1) f1, fun hc => by cases hc⟩) fun e1 _ σ1 k1 f1 => ⟨fun _ => hF 6 a ((r1 e1).ck.2 hle) σ1 (hC.s9 k1) f1, fun hc => by cases hc⟩
  rw [show (4 : Int32) = nI 4 from rfl, nt_le (by decide) (by omega)]
  exact ⟨fun e => f20 false (by rw [decide_eq_false]; omega), fun e => f20 true (by rw [decide_eq_true]; omega)⟩
theorem s_X9_jg1 (h : TSt σ te tk (P 1) (P 14) (xT X) B N a nm pf ps) (hT : TBo G W te tk σ X T ls) (hC : CX G W σ te tk) (hl : ls ≠ []) (h1 : eK B N a ≠ 1) {k : PR} (hR : RS Fl Gd (ck ls.isEmpty 6 a k)) (hF : ∀ f p, Fl f p → ∀ σ', Kp (W0 W G) σ σ' → FLt σ' te f p → K false σ') : C_X9_readJug l G (d + 8) te σ K := by
  obtain ⟨mk, la, hmk, hx, h8⟩ := hT.o8
  have hle : ls.isEmpty = false := by cases ls with
    | nil => exact absurd rfl hl
    | cons x xs => rfl
  rw [hle] at hmk
  subst hmk
  refine m_X9_readJug h.rv9 ?_
  simp only [F_X9_readJug]
  exact s_X9_passFirstWord (d := d + 3) (b := true) h h1 h8 (fun _ hc => by cases hc) (fun hc => by cases hc) fun e1 _ σ1 k1 f1 => ⟨fun hc => (by cases hc), fun _ => hF 6 a (hR.ck.2 hle) σ1 (hC.s9 k1) f1⟩
theorem s_X9_tb1 (h : TSt σ te tk (P 1) (P 14) (xT X) B N a nm pf ps) (hT : TBo G W te tk σ X T ls) (hC : CX G W σ te tk) (hl : T.1.1 = true) {k : PR} (hR : RS Fl Gd (ck (!T.1.1) 3 a k)) (hF : ∀ f p, Fl f p → ∀ σ', Kp (W0 W G) σ σ' → FLt σ' te f p → K false σ') : C_X9_readTable l G (d + 8) te σ K := by
  obtain ⟨mk, la, hmk, hx, h8⟩ := hT.o8
  refine m_X9_readTable h.rv9 ?_
  simp only [F_X9_readTable, h.n2, h.n0, fZ_at h8, rZ8_0, rP8_0, rZ8_1, rP8_1, rZ8_2, rP8_2, rR8_3, rN8_3, rP8_3, rR8_4, rN8_4, rP8_4, rI8_5, rP8_5, rI8_6, rP8_6, rZ8_7, rP8_7, rR8_8, rN8_8, rP8_8]
  exact ⟨fun e => (by rw [hl] at e; cases e), fun e => s_X9_fail (d := d + 6) (f := 3) h fun σ' k f => hF 3 a (hR.ck.2 (by rw [e]; rfl)) σ' (hC.s9 k) f⟩
def BU (T : TB) (ls : List Nat) (bc bs : Nat) : Prop := ls = [] → 2 * (8 - (T.2.1.length + T.2.2.1.length)) + 460 ≤ bc ∧ 20 * (8 - (T.2.1.length + T.2.2.1.length)) + 3000 ≤ bs
theorem z_rall (hB : okB 75 P) (hWP : ∀ k, k < 75 → ¬ W (P k)) (hN : N ≤ 900) {σ0 : Hp} {C0 : Nat → CE} (hF : ∀ f p, Fl f p → ∀ σ' C', Kp (WL W G P) σ0 σ' → Ck 14 15 C0 C' → RG P C' σ' → LDs P C' 14 → FLt σ' te f p → K false σ') (hK : ∀ a T ls, Gd a T ls → ∀ σ' C' X' nm pf ps, Kp (WL W G P) σ0 σ' → Ck 14 15 C0 C' → RG P C' σ' → TE σ' te tk (P 14) (xT X') nm pf ps → LDr P (xl X') (allL T) C' 14 (ls, 0) → TBr (fun q => W q ∧ q ≠ te ∧ q ≠ tk) σ' X' T → K true σ') :
    ∀ n line σ C X T ls a bc bs, line + n = N + 1 → RDS G W P te tk B N σ C X T ls a → Ck 14 15 C0 C → Kp (WL W G P) σ0 σ → PI N a T ls → BU T ls bc bs → RS Fl Gd (lnsL B N n a T ls) → Z_X9_readAll_9 l G (d + 13) K (n + 1) te (nI line) σ bc bs := by
  intro n
  induction n with
  | zero =>
    intro line σ C X T ls a bc bs hn hs hc0 hk0 hI hBu hR
    obtain ⟨nm, pf, ps, h, hC, hG, hL, hT⟩ := hs
    simp only [Z_X9_readAll_9, F_X9_readAll_9, h.n0, h.en]
    rw [nt_lt (by omega) (by omega)]
    refine ⟨fun _ => s_X9_fail (d := d + 12) (f := 1) h fun σ' k f => ?_, fun hc => absurd (by omega) hc⟩
    exact hF 1 a hR σ' C (hk0.tr ((hC.s9 k).mo fun q _ h => Or.inl h)) hc0 (hG.kp (hC.s9 k) fun k hk e => hWP k hk e.1) hL.s f
  | succ n ih =>
    intro line σ C X T ls a bc bs hn hs hc0 hk0 hI hBu hR
    have hR1 : RS Fl (fun a' T' ls' => RS Fl Gd (if eK B N a' = 0 then endL a' T' ls' else if eK B N a' = 59 then lnsL B N n (nx B N a') T' ls' else .inl (1, a'))) (linL B N a T ls) := by
      revert hR
      simp only [lnsL]
      cases linL B N a T ls with
      | inl x => exact id
      | inr x => exact id
    have hR2 := hR1.pg (PG.linL hI).1
    have hs' := hs
    obtain ⟨nm, pf, ps, h, hC, hG, hL, hT⟩ := hs
    have hW := hI.2.1
    have hb3 := hW.1.1
    have hp4 := hW.2.1.1
    -- a line's fault
    have cF : ∀ f p, Fl f p → ∀ bc bs σ', Kp (W0 W G) σ σ' → FLt σ' te f p → F_X9_readAll_120 l G (d + 13) (Z_X9_readAll_9 l G (d + 13) K (n + 1)) te (nI line) false σ' bc bs K := by
      intro f p hf bc bs σ' k hfl
      simp only [F_X9_readAll_120]
      exact ⟨fun hc => (by cases hc), fun _ => hF f p hf σ' C (hk0.tr (k.mo fun q _ h => Or.inl h)) hc0 (hG.kp k fun k hk e => hWP k hk e.1) hL.s hfl⟩
    -- a line is read
    have cT : ∀ σ' C' X' T' ls' a' bc' bs', (RS Fl Gd (if eK B N a' = 0 then endL a' T' ls' else if eK B N a' = 59 then lnsL B N n (nx B N a') T' ls' else .inl (1, a')) ∧ PI N a' T' ls') → Kp (WL W G P) σ σ' → Ck 14 15 C C' → RDS G W P te tk B N σ' C' X' T' ls' a' → BU T' ls' bc' bs' → F_X9_readAll_120 l G (d + 13) (Z_X9_readAll_9 l G (d + 13) K (n + 1)) te (nI line) true σ' bc' bs' K := by
      intro σ' C' X' T' ls' a' bc' bs' hr k hc hs2 hBu2
      have hs3 := hs2
      obtain ⟨hr1, hI2⟩ := hr
      obtain ⟨nm2, pf2, ps2, h2, hC2, hG2, hL2, hT2⟩ := hs2
      have hkl := kd_lt (B := B) (N := N) (a := a')
      have hk2 := hk0.tr k
      simp only [F_X9_readAll_120, h2.n0, h2.kd]
      rw [nt_0 (by omega), kd_0]
      refine ⟨fun _ => ⟨fun e0 => ?_, fun e0 => ?_⟩, fun hc => by cases hc⟩
      · rw [if_neg e0] at hr1
        refine s_X9_passSign (d := d + 9) (c := 59) h2 (Or.inl rfl) (fun e1 σ3 k3 g3 => ⟨fun _ => ?_, fun hc => by cases hc⟩) fun e1 σ3 k3 f3 => ⟨fun hc => (by cases hc), fun _ => ?_⟩
        · rw [if_pos e1] at hr1
          rw [show nI line + 1 = nI (line + 1) from nt_add line 1]
          exact ih (line + 1) σ3 C' X' T' ls' _ bc' bs' (by omega) ⟨nm2, pf2, ps2, g3, hC2.kp (hC2.s9 k3), hG2.kp (hC2.s9 k3) fun k hk e => hWP k hk e.1, hL2, hT2.k9 (S9.t h2) k3⟩ (hc0.tr hc) (hk2.tr ((hC2.s9 k3).mo fun q _ h => Or.inl h)) ⟨nx_le hI2.1, hI2.2⟩ hBu2 hr1
        · rw [if_neg e1] at hr1
          exact hF 1 a' hr1 σ3 C' (hk2.tr ((hC2.s9 k3).mo fun q _ h => Or.inl h)) (hc0.tr hc) (hG2.kp (hC2.s9 k3) fun k hk e => hWP k hk e.1) hL2.s f3
      · rw [if_pos e0] at hr1
        refine ⟨bc', bs', Nat.le_refl _, Nat.le_refl _, s_X9_readEnd (d := d) hs3 hWP hI2.2.1 (fun e => by have := hBu2 e; omega) hr1 (fun f p hf σ3 k3 f3 => hF f p hf σ3 C' (hk2.tr (k3.mo fun q _ h => Or.inl h)) (hc0.tr hc) (hG2.kp k3 fun k hk e => hWP k hk e.1) hL2.s f3) fun σ3 X3 nm3 pf3 ps3 hgd k3 g3 t3 l3 x3 => hK a' T' ls' hgd σ3 C' X3 nm3 pf3 ps3 (hk2.tr (k3.mo fun q _ h => Or.inl h)) (hc0.tr hc) g3 t3 l3 x3⟩
    have mo : ∀ {σ'}, Kp (W0 W G) σ σ' → Kp (WL W G P) σ σ' := fun {σ'} k => k.mo fun q _ h => Or.inl h
    have mg : ∀ {σ'}, Kp (W0 W G) σ σ' → RG P C σ' := fun {σ'} k => hG.kp k fun k hk e => hWP k hk e.1
    have htp : ¬ W (P 1) := hWP 1 (by decide)
    rw [show n + 1 + 1 = (n + 1) + 1 from rfl, Z_X9_readAll_9]
    simp only [F_X9_readAll_9, h.n0, h.en]
    rw [nt_lt (by omega) (by omega)]
    refine ⟨fun hc => by omega, fun _ => ?_⟩
    unfold linL at hR2
    refine s_X10_isWord (d := d + 8) (j := 0) h.1 h.2.2.2 h.2.1 rfl ?_
    refine ⟨fun e1 => ?_, fun e1 => ?_⟩
    · rw [if_neg (show ¬ isW B N a kwT = true by rw [show isW B N a kwT = false from e1]; decide)] at hR2
      simp only [h.n0]
      refine s_X10_isWord (d := d + 8) (j := 4) h.1 h.2.2.2 h.2.1 rfl ?_
      refine ⟨fun e2 => ?_, fun e2 => ?_⟩
      · rw [if_neg (show ¬ isW B N a kwBo = true by rw [show isW B N a kwBo = false from e2]; decide)] at hR2
        simp only [h.n0]
        refine s_X10_isWord (d := d + 8) (j := 12) h.1 h.2.2.2 h.2.1 rfl ?_
        refine ⟨fun e3 => ?_, fun e3 => ?_⟩
        · rw [if_neg (show ¬ isW B N a kwJu = true by rw [show isW B N a kwJu = false from e3]; decide)] at hR2
          simp only [h.n0]
          refine s_X10_isWord (d := d + 8) (j := 13) h.1 h.2.2.2 h.2.1 rfl ?_
          refine ⟨fun e4 => ?_, fun e4 => ?_⟩
          · rw [if_neg (show ¬ isW B N a kwPi = true by rw [show isW B N a kwPi = false from e4]; decide)] at hR2
            simp only [h.n0]
            refine s_X10_isWord (d := d + 8) (j := 20) h.1 h.2.2.2 h.2.1 rfl ?_
            refine ⟨fun e5 => ?_, fun e5 => ?_⟩
            · rw [if_neg (show ¬ isW B N a kwLa = true by rw [show isW B N a kwLa = false from e5]; decide)] at hR2
              exact s_X9_fail (d := d + 12) (f := 1) h fun σ' k f => cF 1 a hR2 _ _ σ' (hC.s9 k) f
            · rw [if_pos (show isW B N a kwLa = true from e5)] at hR2
              refine ⟨bc, bs, Nat.le_refl _, Nat.le_refl _, s_X9_readLay (d := d) hB hWP hs' hI (isW_1 (w := kwLa) e5) (fun e => by have := hBu e; omega) hR2 (fun f p hf σ' k f => cF _ _ hf _ _ σ' k f) fun σ' C' X' a' ls' hg k hc hs2 hne => cT σ' C' X' T ls' a' _ _ hg k hc hs2 fun e => absurd e hne⟩
          · rw [if_pos (show isW B N a kwPi = true from e4)] at hR2
            by_cases hl : ls = []
            · subst hl
              obtain ⟨b1, b2⟩ := hBu rfl
              rcases hT with ⟨-, dB, dP, la, hT⟩ | ⟨hc, -⟩
              · have hR3 : RS Fl _ (ck (decide (T.2.2.1.length < 4)) 5 a (pieL B N (nx B N a) T [])) := hR2
                exact ⟨2, 20, by omega, by omega, s_X9_readPiece (d := d + 1) h hT hC hW htp (isW_1 (w := kwPi) e4) hR3 (fun f p hf σ' k f => cF _ _ hf _ _ σ' k f) (by decide) (by decide) fun σ' X' dP' a' T' nm' pf' ps' hg x1 t1 t2 k g3 hT3 => cT σ' C X' T' [] a' _ _ hg (mo k) Ck.rf ⟨nm', pf', ps', g3, hC.kp k, mg k, hL.nil, Or.inl ⟨rfl, dB, dP', la, hT3⟩⟩ fun _ => (by have h7 := hg.2.2.1.2.1.1; rw [t1, t2]; omega)⟩
              · exact absurd rfl hc
            · exact ⟨bc, bs, Nat.le_refl _, Nat.le_refl _, s_X9_pc1 (d := d + 1) h hT hC hW hl (isW_1 (w := kwPi) e4) hR2 fun f p hf σ' k f => cF _ _ hf _ _ σ' k f⟩
        · rw [if_pos (show isW B N a kwJu = true from e3)] at hR2
          by_cases hl : ls = []
          · subst hl
            rcases hT with ⟨-, dB, dP, la, hT⟩ | ⟨hc, -⟩
            · have hR3 : RS Fl _ (jugL B N (nx B N a) T []) := hR2
              exact s_X9_readJug (d := d + 5) h hT hC hW (isW_1 (w := kwJu) e3) hR3 (fun f p hf σ' k f => cF _ _ hf _ _ σ' k f) fun σ' a' T' pf' ps' hg t1 t2 k g3 hT3 => cT σ' C X T' [] a' _ _ hg (mo k) Ck.rf ⟨_, pf', ps', g3, hC.kp k, mg k, hL.nil, Or.inl ⟨rfl, dB, dP, la, hT3⟩⟩ fun _ => (by rw [t1, t2]; exact hBu rfl)
            · exact absurd rfl hc
          · exact s_X9_jg1 (d := d + 5) h hT hC hl (isW_1 (w := kwJu) e3) hR2 fun f p hf σ' k f => cF _ _ hf _ _ σ' k f
      · rw [if_pos (show isW B N a kwBo = true from e2)] at hR2
        by_cases hl : ls = []
        · subst hl
          obtain ⟨b1, b2⟩ := hBu rfl
          rcases hT with ⟨-, dB, dP, la, hT⟩ | ⟨hc, -⟩
          · have hR3 : RS Fl _ (ck (decide (T.2.1.length < 3)) 5 a (boaL B N (nx B N a) T [])) := hR2
            exact ⟨2, 20, by omega, by omega, s_X9_readBoard (d := d + 1) h hT hC hW htp (isW_1 (w := kwBo) e2) hR3 (fun f p hf σ' k f => cF _ _ hf _ _ σ' k f) (by decide) (by decide) fun σ' X' dB' a' T' nm' hg x1 t1 t2 k g3 hT3 => cT σ' C X' T' [] a' _ _ hg (mo k) Ck.rf ⟨nm', pf, ps, g3, hC.kp k, mg k, hL.nil, Or.inl ⟨rfl, dB', dP, la, hT3⟩⟩ fun _ => (by have h7 := hg.2.2.1.1.1; rw [t1] at h7; rw [t1, t2]; omega)⟩
          · exact absurd rfl hc
        · exact ⟨bc, bs, Nat.le_refl _, Nat.le_refl _, s_X9_bd1 (d := d + 1) h hT hC hW hl (isW_1 (w := kwBo) e2) hR2 fun f p hf σ' k f => cF _ _ hf _ _ σ' k f⟩
    · rw [if_pos (show isW B N a kwT = true from e1)] at hR2
      by_cases hl : T.1.1 = true
      · exact s_X9_tb1 (d := d + 5) h hT hC hl hR2 fun f p hf σ' k f => cF _ _ hf _ _ σ' k f
      · obtain ⟨-, rfl⟩ := hI.2.2.2.1 (by simpa using hl)
        rcases hT with ⟨-, dB, dP, la, hT⟩ | ⟨hc, -⟩
        · exact s_X9_readTable (d := d + 5) h hT hC (isW_1 (w := kwT) e1) hR2 (fun f p hf σ' k f => cF _ _ hf _ _ σ' k f) fun σ' a' T' hg t1 k g3 hT3 => cT σ' C X T' [] a' _ _ hg (mo k) Ck.rf ⟨_, _, _, g3, hC.kp k, mg k, hL.nil, Or.inl ⟨rfl, dB, dP, la, hT3⟩⟩ fun _ => (by rw [t1]; exact hBu rfl)
        · exact absurd rfl hc
end RAL
