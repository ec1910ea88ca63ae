/-! READING a text (Telling): what its small methods do -/
/-- the telling's cell -/
def TE (σ : Hp) (te tk lo xt : Nat) (nm : Int64) (pf ps : Int32) : Prop := ∃ pl, σ te = some (O9 (some tk) (some lo) (some xt) 0 pl nm pf ps)
def TSt (σ : Hp) (te tk tp lo xt : Nat) (B : Nat → Nat) (N a : Nat) (nm : Int64) (pf ps : Int32) : Prop := TP σ tp B N ∧ TKr σ tk tp B N a ∧ TE σ te tk lo xt nm pf ps ∧ a ≤ N
/-- a fault at a place -/
def FLt (σ : Hp) (te f p : Nat) : Prop := ∃ tk lo tb nm pf ps, σ te = some (O9 tk lo tb (nI f) (nI p) nm pf ps)
def S9 (te tk : Nat) : Nat → Prop := fun z => z = te ∨ z = tk
theorem ssz_at (j : Nat) (q : String × Nat × String × List Nat) (h : ssz[j]? = some q) : ssz[j]? = some q := h
/-- what a reading comes to, told to the one who asked -/
def RS (Fl : Nat → Nat → Prop) (Gd : Nat → TB → List Nat → Prop) : PR → Prop
  | .inl (f, p) => Fl f p
  | .inr (a, T, ls) => Gd a T ls
section RS
variable {Fl : Nat → Nat → Prop} {Gd : Nat → TB → List Nat → Prop} {B : Nat → Nat} {N a : Nat} {k : PR}
theorem RS.ck {c : Bool} {f : Nat} (h : RS Fl Gd (ck c f a k)) : (c = true → RS Fl Gd k) ∧ (c = false → Fl f a) := by
  unfold Jvm.Pilot.CCoinsLaidLaw_law_r4080_fdb2f8.ck at h
  exact ⟨fun e => by rw [if_pos e] at h; exact h, fun e => by rw [if_neg (by rw [e]; decide)] at h; exact h⟩
theorem RS.ckN {lo hi : Nat} (h : RS Fl Gd (ckN B N a lo hi k)) : (eK B N a = 3 → lo ≤ tV B N a → tV B N a ≤ hi → RS Fl Gd k) ∧ (eK B N a ≠ 3 → Fl 1 a) ∧ (eK B N a = 3 → ¬ (lo ≤ tV B N a ∧ tV B N a ≤ hi) → Fl 4 a) := by
  obtain ⟨h1, h2⟩ := RS.ck h
  exact ⟨fun e1 e2 e3 => (RS.ck (h1 (decide_eq_true e1))).1 (decide_eq_true ⟨e2, e3⟩), fun e => h2 (decide_eq_false e), fun e1 e2 => (RS.ck (h1 (decide_eq_true e1))).2 (decide_eq_false e2)⟩
theorem RS.ckW {w : List Nat} (h : RS Fl Gd (ckW B N a w k)) : (isW B N a w = true → RS Fl Gd k) ∧ (isW B N a w = false → Fl 1 a) := RS.ck h
theorem RS.ckNm {T : TB} (h : RS Fl Gd (ckNm B N a T k)) : (nmOK B N a = true → findN T (tw B N a) 7 0 = none → RS Fl Gd k) ∧ (nmOK B N a = false → Fl 1 a) ∧ (nmOK B N a = true → findN T (tw B N a) 7 0 ≠ none → Fl 3 a) := by
  obtain ⟨h1, h2⟩ := RS.ck h
  exact ⟨fun e1 e2 => (RS.ck (h1 e1)).1 (by rw [e2]; rfl), h2, fun e1 e2 => (RS.ck (h1 e1)).2 (by
    cases h3 : findN T (tw B N a) 7 0 with
    | none => exact absurd h3 e2
    | some m => rfl)⟩
end RS
section TEL
variable {l : Launch} {G : GG} {d : Nat} {σ : Hp} {te tk tp lo xt : Nat} {B : Nat → Nat} {N a : Nat} {nm : Int64} {pf ps : Int32}
theorem TSt.tt (h : TSt σ te tk tp lo xt B N a nm pf ps) : tg σ te 9 ∧ tg σ tk 10 ∧ tg σ tp 100 := by
  obtain ⟨⟨_, _, f, hf, _⟩, ⟨ln, h1, _⟩, ⟨pl, h2⟩, _⟩ := h
  exact ⟨⟨_, h2, rfl⟩, ⟨_, h1, rfl⟩, ⟨_, hf, rfl⟩⟩
theorem TSt.rv9 (h : TSt σ te tk tp lo xt B N a nm pf ps) : rv σ te 9 := by
  obtain ⟨_, _, ⟨pl, h2⟩, _⟩ := h
  exact ⟨_, h2⟩
theorem TSt.n0 (h : TSt σ te tk tp lo xt B N a nm pf ps) {K : Nat → Prop} : fN σ te 9 0 K = K tk := by
  obtain ⟨_, _, ⟨pl, h2⟩, _⟩ := h
  rw [fN_at h2]; exact rN9_0
theorem TSt.n1 (h : TSt σ te tk tp lo xt B N a nm pf ps) {K : Nat → Prop} : fN σ te 9 1 K = K lo := by
  obtain ⟨_, _, ⟨pl, h2⟩, _⟩ := h
  rw [fN_at h2]; exact rN9_1
theorem TSt.n2 (h : TSt σ te tk tp lo xt B N a nm pf ps) {K : Nat → Prop} : fN σ te 9 2 K = K xt := by
  obtain ⟨_, _, ⟨pl, h2⟩, _⟩ := h
  rw [fN_at h2]; exact rN9_2
theorem TSt.j5 (h : TSt σ te tk tp lo xt B N a nm pf ps) {K : Int64 → Prop} : fJ σ te 9 5 K = K nm := by
  obtain ⟨_, _, ⟨pl, h2⟩, _⟩ := h
  rw [fJ_at h2]; exact rJ9_5
theorem TSt.i6 (h : TSt σ te tk tp lo xt B N a nm pf ps) {K : Int32 → Prop} : fI σ te 9 6 K = K pf := by
  obtain ⟨_, _, ⟨pl, h2⟩, _⟩ := h
  rw [fI_at h2]; exact rI9_6
theorem TSt.i7 (h : TSt σ te tk tp lo xt B N a nm pf ps) {K : Int32 → Prop} : fI σ te 9 7 K = K ps := by
  obtain ⟨_, _, ⟨pl, h2⟩, _⟩ := h
  rw [fI_at h2]; exact rI9_7
theorem TSt.kd (h : TSt σ te tk tp lo xt B N a nm pf ps) {K : Int32 → Prop} : fI σ tk 10 3 K = K (nI (kd B N a)) := by
  obtain ⟨_, ⟨ln, h1, _⟩, _⟩ := h
  rw [fI_at h1]; exact rI10_3
theorem TSt.en (h : TSt σ te tk tp lo xt B N a nm pf ps) {K : Int32 → Prop} : fI σ tk 10 1 K = K (nI N) := by
  obtain ⟨_, ⟨ln, h1, _⟩, _⟩ := h
  rw [fI_at h1]; exact rI10_1
/-- the telling's own cell changed -/
theorem TSt.st (h : TSt σ te tk tp lo xt B N a nm pf ps) {pl : Int32} {nm' : Int64} {pf' ps' : Int32} : TSt (hset σ te (O9 (some tk) (some lo) (some xt) 0 pl nm' pf' ps')) te tk tp lo xt B N a nm' pf' ps' ∧ Kp (S9 te tk) σ (hset σ te (O9 (some tk) (some lo) (some xt) 0 pl nm' pf' ps')) := by
  obtain ⟨t1, t2, t3⟩ := h.tt
  obtain ⟨a1, ⟨ln, a2, a3⟩, a4, a5⟩ := h
  exact ⟨⟨a1.hs (Or.inr trivial) (tg_ne t1 t3 (by decide)), ⟨ln, by rw [hset_ne (tg_ne t2 t1 (by decide))]; exact a2, a3⟩, ⟨pl, hset_eq ..⟩, a5⟩, Kp.set fun _ => Or.inl rfl⟩
theorem TSt.kp (h : TSt σ te tk tp lo xt B N a nm pf ps) {S : Nat → Prop} {σ' : Hp} (hk : Kp S σ σ') (h1 : ¬ S te) (h2 : ¬ S tk) (h3 : ¬ S tp) : TSt σ' te tk tp lo xt B N a nm pf ps := by
  obtain ⟨⟨b1, b2, f, b3, b4⟩, ⟨ln, a2, a3⟩, ⟨pl, a4⟩, a5⟩ := h
  exact ⟨⟨b1, b2, f, hk.at b3 h3, b4⟩, ⟨ln, hk.at a2 h2, a3⟩, ⟨pl, hk.at a4 h1⟩, a5⟩
theorem s_X9_fail (h : TSt σ te tk tp lo xt B N a nm pf ps) {f : Nat} {K : Bool → Hp → Prop} (hK : ∀ σ', Kp (S9 te tk) σ σ' → FLt σ' te f a → K false σ') : C_X9_fail l G (d + 1) te (nI f) σ K := by
  obtain ⟨t1, t2, t3⟩ := h.tt
  refine m_X9_fail h.rv9 ?_
  obtain ⟨a1, ⟨ln, a2, a3⟩, ⟨pl, a4⟩, a5⟩ := h
  have hn : tk ≠ te := tg_ne t2 t1 (by decide)
  have a2' := (hset_ne (c := O9 (some tk) (some lo) (some xt) (nI f) pl nm pf ps) hn).trans a2
  simp only [F_X9_fail, fI_at (a4), fZ_at (a4), fJ_at (a4), fR_at (a4), fN_at (a4), pF_at (a4), rR9_0, rN9_0, rP9_0, rR9_1, rN9_1, rP9_1, rR9_2, rN9_2, rP9_2, rI9_3, rP9_3, rI9_4, rP9_4, rJ9_5, rP9_5, rI9_6, rP9_6, rI9_7, rP9_7, fN_hs, fI_at (a2'), fZ_at (a2'), fJ_at (a2'), fR_at (a2'), fN_at (a2'), pF_at (a2'), rR10_0, rN10_0, rP10_0, rI10_1, rP10_1, rI10_2, rP10_2, rI10_3, rP10_3, rI10_4, rP10_4, pF_hs]
  exact hK _ (Kp.set fun _ => Or.inl rfl) ⟨_, _, _, _, _, _, hset_eq ..⟩
theorem s_adv (h : TSt σ te tk tp lo xt B N a nm pf ps) (hk1 : eK B N a ≠ 1) {K : Hp → Prop} (hK : ∀ σ', Kp (S9 te tk) σ σ' → TSt σ' te tk tp lo xt B N (nx B N a) nm pf ps → K σ') : C_X10_advance l G (d + 3) tk σ K := by
  obtain ⟨t1, t2, t3⟩ := h.tt
  obtain ⟨a1, ⟨ln, a2, a3⟩, ⟨pl, a4⟩, a5⟩ := h
  have he := eE_le (B := B) a5
  rw [a3 hk1] at a2
  have e : a + (eE B N a - a) = eE B N a := by omega
  refine s_X10_advance (d := d) a1 (show a + (eE B N a - a) ≤ N by omega) a2 ?_
  rw [e]
  intro hT
  exact hK _ (Kp.set fun _ => Or.inr rfl) ⟨a1.hs (Or.inr trivial) (tg_ne t2 t3 (by decide)), hT, ⟨pl, by rw [hset_ne (tg_ne t1 t2 (by decide))]; exact a4⟩, nx_le a5⟩
theorem isW_1 {w : List Nat} (h : isW B N a w = true) : eK B N a ≠ 1 := by rw [isW_k h]; decide
theorem s_X9_passPerhaps (h : TSt σ te tk tp lo xt B N a nm pf ps) {j : Nat} {q : String × Nat × String × List Nat} (hq : ssz[j]? = some q) {K : Bool → Hp → Prop} (hK : isW B N a q.2.2.2 = true → ∀ σ', Kp (S9 te tk) σ σ' → TSt σ' te tk tp lo xt B N (nx B N a) nm pf ps → K true σ') (hK2 : isW B N a q.2.2.2 = false → K false σ) : C_X9_passPerhaps l G (d + 6) te (gK G j) σ K := by
  refine m_X9_passPerhaps h.rv9 ?_
  simp only [F_X9_passPerhaps, h.n0]
  exact s_X10_isWord (d := d) h.1 h.2.2.2 h.2.1 hq ⟨fun e => (by simp only [h.n0]; exact s_adv (d := d + 2) h (isW_1 e) (hK e)), fun e => hK2 e⟩
theorem s_X9_passWord (h : TSt σ te tk tp lo xt B N a nm pf ps) {j : Nat} {q : String × Nat × String × List Nat} (hq : ssz[j]? = some q) {K : Bool → Hp → Prop} (hK : isW B N a q.2.2.2 = true → ∀ σ', Kp (S9 te tk) σ σ' → TSt σ' te tk tp lo xt B N (nx B N a) nm pf ps → K true σ') (hK2 : isW B N a q.2.2.2 = false → ∀ σ', Kp (S9 te tk) σ σ' → FLt σ' te 1 a → K false σ') : C_X9_passWord l G (d + 7) te (gK G j) σ K := by
  refine m_X9_passWord h.rv9 ?_
  simp only [F_X9_passWord_17, F_X9_passWord]
  refine s_X9_passPerhaps (d := d) h hq (fun e σ' k1 k2 => ⟨fun hc => (by cases hc), fun _ => hK e σ' k1 k2⟩) fun e => ⟨fun _ => s_X9_fail (d := d + 5) (f := 1) h (hK2 e), fun hc => by cases hc⟩
theorem s_X9_passSign (h : TSt σ te tk tp lo xt B N a nm pf ps) {c : Nat} (hc : c = 59 ∨ c = 44) {K : Bool → Hp → Prop} (hK : eK B N a = c → ∀ σ', Kp (S9 te tk) σ σ' → TSt σ' te tk tp lo xt B N (nx B N a) nm pf ps → K true σ') (hK2 : eK B N a ≠ c → ∀ σ', Kp (S9 te tk) σ σ' → FLt σ' te 1 a → K false σ') : C_X9_passSign l G (d + 4) te (nI c) σ K := by
  refine m_X9_passSign h.rv9 ?_
  simp only [F_X9_passSign, h.n0]
  refine s_X10_isSign (d := d + 1) h.1 h.2.2.2 h.2.1 hc ⟨fun e => ?_, fun e => s_X9_fail (d := d + 2) (f := 1) h (hK2 (by simpa using e))⟩
  simp only [decide_eq_true_eq] at e
  simp only [h.n0]
  exact s_adv (d := d) h (by omega) (hK e)
theorem s_X9_isWholeWithin (h : TSt σ te tk tp lo xt B N a nm pf ps) {c1 c2 : Nat} (h1 : c1 < 2 ^ 31) (h2 : c2 < 2 ^ 31) {K : Bool → Hp → Prop} (hK : eK B N a = 3 → c1 ≤ tV B N a → tV B N a ≤ c2 → K true σ) (hK1 : eK B N a ≠ 3 → ∀ σ', Kp (S9 te tk) σ σ' → FLt σ' te 1 a → K false σ') (hK2 : eK B N a = 3 → ¬ (c1 ≤ tV B N a ∧ tV B N a ≤ c2) → ∀ σ', Kp (S9 te tk) σ σ' → FLt σ' te 4 a → K false σ') : C_X9_isWholeWithin l G (d + 3) te (nI c1) (nI c2) σ K := by
  have hkl := kd_lt (B := B) (N := N) (a := a)
  refine m_X9_isWholeWithin h.rv9 ?_
  simp only [F_X9_isWholeWithin_44, F_X9_isWholeWithin_35, F_X9_isWholeWithin, h.n0, h.kd]
  rw [show (2 : Int32) = nI 2 from rfl, nt_eq (by omega) (by decide), kd_2]
  refine ⟨fun h3 => s_X10_wholeValue (d := d) h.1 h.2.2.2 h.2.1 h3 ?_, fun h3 => s_X9_fail (d := d + 1) (f := 1) h (hK1 h3)⟩
  have hv := tV_lt h.1.2.1 h.2.2.2 h3
  rw [nt_lt (by omega) h1, nt_le (by omega) h2]
  exact ⟨fun e => s_X9_fail (d := d + 1) (f := 4) h (hK2 h3 (by omega)), fun e => ⟨fun e2 => hK h3 (by omega) e2, fun e2 => s_X9_fail (d := d + 1) (f := 4) h (hK2 h3 (by omega))⟩⟩
theorem s_X9_passFirstWord (h : TSt σ te tk tp lo xt B N a nm pf ps) (h1 : eK B N a ≠ 1) {b mk : Bool} {x0 x1 x2 : Bool} {x3 x4 x8 : Option Nat} {x5 x6 : Int32} (hT : σ xt = some (O8 x0 x1 x2 x3 x4 x5 x6 mk x8)) {K : Bool → Hp → Prop} (hK : b = true → mk = false → ∀ σ', Kp (S9 te tk) σ σ' → TSt σ' te tk tp lo xt B N (nx B N a) nm pf ps → K true σ') (hK1 : b = false → ∀ σ', Kp (S9 te tk) σ σ' → FLt σ' te 5 a → K false σ') (hK2 : b = true → mk = true → ∀ σ', Kp (S9 te tk) σ σ' → FLt σ' te 6 a → K false σ') : C_X9_passFirstWord l G (d + 4) te b σ K := by
  refine m_X9_passFirstWord h.rv9 ?_
  simp only [F_X9_passFirstWord, h.n0, h.n2, fI_at (hT), fZ_at (hT), fJ_at (hT), fR_at (hT), fN_at (hT), pF_at (hT), rZ8_0, rP8_0, rZ8_1, rP8_1, rZ8_2, rP8_2, rR8_3, rN8_3, rP8_3, rR8_4, rN8_4, rP8_4, rI8_5, rP8_5, rI8_6, rP8_6, rZ8_7, rP8_7, rR8_8, rN8_8, rP8_8]
  exact ⟨fun e => ⟨fun e2 => s_adv (d := d) h h1 (hK e e2), fun e2 => s_X9_fail (d := d + 2) (f := 6) h (hK2 e e2)⟩, fun e => s_X9_fail (d := d + 2) (f := 5) h (hK1 e)⟩
theorem S9.t (h : TSt σ te tk tp lo xt B N a nm pf ps) : ∀ z, S9 te tk z → tg σ z 9 ∨ tg σ z 10 := by
  rintro z (rfl | rfl)
  · exact Or.inl h.tt.1
  · exact Or.inr h.tt.2.1
theorem s_X9_passNewName {W : Nat → Prop} {X : TX} {dB dP la : Nat} {mk : Bool} {T : TB} (h : TSt σ te tk tp lo (xT X) B N a nm pf ps) (hT : TBb G W σ X dB dP mk la T) (hW : WFT T) {K : Bool → Hp → Prop} (hK : nmOK B N a = true → findN T (tw B N a) 7 0 = none → ∀ σ', Kp (S9 te tk) σ σ' → TSt σ' te tk tp lo (xT X) B N (nx B N a) (wcd (tw B N a)) pf ps → K true σ') (hK1 : nmOK B N a = false → ∀ σ', Kp (S9 te tk) σ σ' → FLt σ' te 1 a → K false σ') (hK2 : nmOK B N a = true → findN T (tw B N a) 7 0 ≠ none → ∀ σ', Kp (S9 te tk) σ σ' → FLt σ' te 3 a → K false σ') : C_X9_passNewName l G (d + 7) te σ K := by
  refine m_X9_passNewName h.rv9 ?_
  simp only [F_X9_passNewName, h.n0]
  refine s_X10_isName (d := d) h.1 h.2.2.2 h.2.1 ⟨fun e => ?_, fun e => s_X9_fail (d := d + 5) (f := 1) h (hK1 e)⟩
  have hk := nmOK_k e
  simp only [h.n0]
  refine s_X10_wordCode (d := d + 4) h.1 h.2.2.2 h.2.1 hk ?_
  obtain ⟨pl, h2⟩ := id h.2.2.1
  simp only [pF_at h2, rR9_0, rN9_0, rP9_0, rR9_1, rN9_1, rP9_1, rR9_2, rN9_2, rP9_2, rI9_3, rP9_3, rI9_4, rP9_4, rJ9_5, rP9_5, rI9_6, rP9_6, rI9_7, rP9_7]
  obtain ⟨h3, k3⟩ := h.st (pl := pl) (nm' := wcd (tw B N a)) (pf' := pf) (ps' := ps)
  simp only [h3.n0, h3.n2, h3.j5]
  refine s_X8_isNameTold (d := d) (hT.k9 k3 (S9.t h)) hW (tw_NM h.2.2.2 hk) ⟨fun e2 => ?_, fun e2 => ?_⟩
  · simp only [h3.n0]
    refine s_adv (d := d + 3) h3 (by omega) fun σ' k4 h4 => hK e (by simpa using e2) σ' (k3.tr k4) h4
  · refine s_X9_fail (d := d + 5) (f := 3) h3 fun σ' k4 h4 => hK2 e (fun hc => by rw [hc] at e2; cases e2) σ' (k3.tr k4) h4
theorem s_X9_readPair (h : TSt σ te tk tp lo xt B N a nm pf ps) {c1 c2 c3 : Nat} (h1 : c1 < 2 ^ 31) (h2 : c2 < 2 ^ 31) (h3 : c3 < 2 ^ 31) {K : Bool → Hp → Prop} {k : PR} {Fl : Nat → Nat → Prop} {Gd : Nat → TB → List Nat → Prop} (hR : RS Fl Gd (ckN B N a c1 c2 (ck (decide (eK B N (nx B N a) = 44)) 1 (nx B N a) (ckN B N (nx B N (nx B N a)) c1 c3 k))))
    (hF : ∀ f p, Fl f p → ∀ σ', Kp (S9 te tk) σ σ' → FLt σ' te f p → K false σ')
    (hK : RS Fl Gd k → c1 ≤ tV B N a → tV B N a ≤ c2 → eK B N (nx B N (nx B N a)) = 3 → c1 ≤ tV B N (nx B N (nx B N a)) → tV B N (nx B N (nx B N a)) ≤ c3 → ∀ σ', Kp (S9 te tk) σ σ' → TSt σ' te tk tp lo xt B N (nx B N (nx B N a)) nm (nI (tV B N a)) (nI (tV B N (nx B N (nx B N a)))) → K true σ') : C_X9_readPair l G (d + 5) te (nI c1) (nI c2) (nI c3) σ K := by
  obtain ⟨r1, r2, r3⟩ := hR.ckN
  refine m_X9_readPair h.rv9 ?_
  simp only [F_X9_readPair_47, F_X9_readPair, h.n0]
  refine s_X9_isWholeWithin (d := d + 1) h h1 h2 (fun e1 e2 e3 => ⟨fun _ => ?_, fun hc => by cases hc⟩) (fun e1 σ' k1 f1 => ⟨fun hc => (by cases hc), fun _ => hF 1 a (r2 e1) σ' k1 f1⟩) fun e1 e2 σ' k1 f1 => ⟨fun hc => (by cases hc), fun _ => hF 4 a (r3 e1 e2) σ' k1 f1⟩
  obtain ⟨r4, r5⟩ := (r1 e1 e2 e3).ck
  simp only [h.n0]
  refine s_X10_wholeValue (d := d + 2) h.1 h.2.2.2 h.2.1 e1 ?_
  obtain ⟨pl, hte⟩ := id h.2.2.1
  simp only [pF_at hte, rR9_0, rN9_0, rP9_0, rR9_1, rN9_1, rP9_1, rR9_2, rN9_2, rP9_2, rI9_3, rP9_3, rI9_4, rP9_4, rJ9_5, rP9_5, rI9_6, rP9_6, rI9_7, rP9_7]
  obtain ⟨g1, m1⟩ := h.st (pl := pl) (nm' := nm) (pf' := nI (tV B N a)) (ps' := ps)
  simp only [g1.n0]
  refine s_adv (d := d + 1) g1 (by omega) fun σ2 m2 g2 => ?_
  refine s_X9_passSign (d := d) (c := 44) g2 (Or.inr rfl) (fun e4 σ3 m3 g3 => ⟨fun hc => (by cases hc), fun _ => ?_⟩) fun e4 σ3 m3 f3 => ⟨fun _ => hF 1 _ (r5 (decide_eq_false e4)) σ3 ((m1.tr m2).tr m3) f3, fun hc => by cases hc⟩
  obtain ⟨r6, r7, r8⟩ := (r4 (decide_eq_true e4)).ckN
  refine s_X9_isWholeWithin (d := d + 1) g3 h1 h3 (fun e5 e6 e7 => ⟨fun _ => ?_, fun hc => by cases hc⟩) (fun e5 σ4 m4 f4 => ⟨fun hc => (by cases hc), fun _ => hF 1 _ (r7 e5) σ4 (((m1.tr m2).tr m3).tr m4) f4⟩) fun e5 e6 σ4 m4 f4 => ⟨fun hc => (by cases hc), fun _ => hF 4 _ (r8 e5 e6) σ4 (((m1.tr m2).tr m3).tr m4) f4⟩
  simp only [g3.n0]
  refine s_X10_wholeValue (d := d + 2) g3.1 g3.2.2.2 g3.2.1 e5 ?_
  obtain ⟨pl, hte⟩ := id g3.2.2.1
  simp only [pF_at hte, rR9_0, rN9_0, rP9_0, rR9_1, rN9_1, rP9_1, rR9_2, rN9_2, rP9_2, rI9_3, rP9_3, rI9_4, rP9_4, rJ9_5, rP9_5, rI9_6, rP9_6, rI9_7, rP9_7]
  obtain ⟨g4, m4⟩ := g3.st (pl := pl) (nm' := nm) (pf' := nI (tV B N a)) (ps' := nI (tV B N (nx B N (nx B N a))))
  exact hK (r6 e5 e6 e7) e2 e3 e5 e6 e7 _ (((m1.tr m2).tr m3).tr m4) g4
theorem s_X9_kindTold (h : TSt σ te tk tp lo xt B N a nm pf ps) {K : Int32 → Hp → Prop} (hK : K (if isW B N a kwCo then 0 else if isW B N a kwBl then 1 else if isW B N a kwCr then 2 else -1) σ) : C_X9_kindTold l G (d + 6) te σ K := by
  refine m_X9_kindTold h.rv9 ?_
  simp only [F_X9_kindTold_45, F_X9_kindTold, h.n0]
  refine s_X10_isWord (d := d) (j := 14) h.1 h.2.2.2 h.2.1 rfl ?_
  refine ⟨fun e1 => ?_, fun e1 => ?_⟩
  · rw [if_neg (show ¬ isW B N a kwCo = true by rw [show isW B N a kwCo = false from e1]; decide)] at hK
    simp only [h.n0]
    refine s_X10_isWord (d := d) (j := 15) h.1 h.2.2.2 h.2.1 rfl ?_
    refine ⟨fun e2 => ?_, fun e2 => ?_⟩
    · rw [if_neg (show ¬ isW B N a kwBl = true by rw [show isW B N a kwBl = false from e2]; decide)] at hK
      simp only [h.n0]
      refine s_X10_isWord (d := d) (j := 16) h.1 h.2.2.2 h.2.1 rfl ?_
      refine ⟨fun e3 => ?_, fun e3 => ?_⟩
      · rw [if_neg (show ¬ isW B N a kwCr = true by rw [show isW B N a kwCr = false from e3]; decide)] at hK
        exact hK
      · rw [if_pos (show isW B N a kwCr = true from e3)] at hK
        exact hK
    · rw [if_pos (show isW B N a kwBl = true from e2)] at hK
      exact hK
  · rw [if_pos (show isW B N a kwCo = true from e1)] at hK
    exact hK
theorem s_X9_ownerTold (h : TSt σ te tk tp lo xt B N a nm pf ps) {K : Int32 → Hp → Prop} (hK : ∀ σ' a' o, (a', o) = (if isW B N a kwFi then (nx B N a, 1) else if isW B N a kwSe then (nx B N a, 2) else (a, 0)) → Kp (S9 te tk) σ σ' → TSt σ' te tk tp lo xt B N a' nm pf ps → K (ownI o) σ') : C_X9_ownerTold l G (d + 7) te σ K := by
  refine m_X9_ownerTold h.rv9 ?_
  simp only [F_X9_ownerTold_25, F_X9_ownerTold]
  refine s_X9_passPerhaps (d := d) (j := 18) h rfl (fun e σ' k1 k2 => ⟨fun hc => (by cases hc), fun _ => ?_⟩) fun e => ⟨fun _ => ?_, fun hc => by cases hc⟩
  · exact hK σ' (nx B N a) 1 (by rw [if_pos (show isW B N a kwFi = true from e)]) k1 k2
  · have e0 : ¬ isW B N a kwFi = true := by rw [show isW B N a kwFi = false from e]; decide
    refine s_X9_passPerhaps (d := d) (j := 19) h rfl (fun e2 σ' k1 k2 => ⟨fun hc => (by cases hc), fun _ => ?_⟩) fun e2 => ⟨fun _ => ?_, fun hc => by cases hc⟩
    · exact hK σ' (nx B N a) 2 (by rw [if_neg e0, if_pos (show isW B N a kwSe = true from e2)]) k1 k2
    · exact hK σ a 0 (by rw [if_neg e0, if_neg (by rw [show isW B N a kwSe = false from e2]; decide)]) Kp.rf h
end TEL
