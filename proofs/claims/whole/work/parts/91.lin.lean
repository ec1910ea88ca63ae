/-! READING a text: its lines -/
abbrev W0 (W : Nat → Prop) (G : GG) : Nat → Prop := fun q => W q ∧ q ≠ gE G
def CX (G : GG) (W : Nat → Prop) (σ : Hp) (te tk : Nat) : Prop := σ (gE G) = some (rA 6 0 fun _ => none) ∧ (∀ q, σ q = none → W q) ∧ (W te ∧ te ≠ gE G) ∧ (W tk ∧ tk ≠ gE G)
section LIN
variable {l : Launch} {G : GG} {d mc ms : Nat} {W : Nat → Prop} {σ σ' : Hp} {te tk tp lo : Nat} {B : Nat → Nat} {N a : Nat} {nm : Int64} {pf ps : Int32} {X : TX} {dB dP la : Nat} {mk : Bool} {T : TB} {K : Bool → Hp → Prop} {Fl : Nat → Nat → Prop} {Gd : Nat → TB → List Nat → Prop}
theorem CX.kp (h : CX G W σ te tk) (hk : Kp (W0 W G) σ σ') : CX G W σ' te tk := ⟨hk.at h.1 fun e => e.2 rfl, fun q hq => h.2.1 q (hk.fr hq), h.2.2⟩
theorem CX.s9 (h : CX G W σ te tk) {σ1 : Hp} (hk : Kp (S9 te tk) σ1 σ') : Kp (W0 W G) σ1 σ' := hk.mo fun q _ hs => by
  rcases hs with rfl | rfl
  · exact h.2.2.1
  · exact h.2.2.2
theorem CX.n (h : CX G W σ te tk) : σ (gE G) ≠ none := by rw [h.1]; simp
theorem CX.ne (h : CX G W σ te tk) {z t : Nat} (hz : tg σ z t) (ht : t ≠ 100) : z ≠ gE G := tg_ne hz ⟨_, h.1, rfl⟩ ht
theorem TSt.nt (h : TSt σ te tk tp lo (xT X) B N a nm pf ps) (hT : tg σ (xT X) 8) : xT X ≠ te ∧ xT X ≠ tk ∧ xT X ≠ tp := ⟨tg_ne hT h.tt.1 (by decide), tg_ne hT h.tt.2.1 (by decide), tg_ne hT h.tt.2.2 (by decide)⟩
/-- the table's law and jugs told -/
theorem sTT (h : TSt σ te tk tp lo (xT X) B N a nm pf ps) (hC : CX G W σ te tk) (hT : TBb G W σ X dB dP mk la T) (b1 b2 b3 : Bool) (j : Nat) : TSt (hset σ (xT X) (O8 b1 b2 b3 (some (xB X)) (some (xP X)) (nI (nsq T.2.1)) (nI j) mk (some la))) te tk tp lo (xT X) B N a nm pf ps ∧ TBb G W (hset σ (xT X) (O8 b1 b2 b3 (some (xB X)) (some (xP X)) (nI (nsq T.2.1)) (nI j) mk (some la))) X dB dP mk la ((b1, b2, b3), T.2.1, T.2.2.1, j) ∧ Kp (W0 W G) σ (hset σ (xT X) (O8 b1 b2 b3 (some (xB X)) (some (xP X)) (nI (nsq T.2.1)) (nI j) mk (some la))) := by
  have ht := hT.tt.1
  obtain ⟨n1, n2, n3⟩ := h.nt ht
  have hk : Kp (fun z => z = xT X) σ (hset σ (xT X) (O8 b1 b2 b3 (some (xB X)) (some (xP X)) (nI (nsq T.2.1)) (nI j) mk (some la))) := Kp.set fun _ => rfl
  exact ⟨h.kp hk (Ne.symm n1) (Ne.symm n2) (Ne.symm n3), hT.sT (T' := ((b1, b2, b3), T.2.1, T.2.2.1, j)) hk rfl rfl (hset_eq ..), hk.mo fun q _ e => by subst e; exact ⟨hT.1.1, hC.ne ht (by decide)⟩⟩
theorem s_X9_readTable (h : TSt σ te tk tp lo (xT X) B N a nm pf ps) (hT : TBb G W σ X dB dP false la T) (hC : CX G W σ te tk) (h1 : eK B N a ≠ 1) (hR : RS Fl Gd (ck (!T.1.1) 3 a (tabL B N (nx B N a) T []))) (hF : ∀ f p, Fl f p → ∀ σ', Kp (W0 W G) σ σ' → FLt σ' te f p → K false σ') (hK : ∀ σ' a' T', Gd a' T' [] → T'.2 = T.2 → Kp (W0 W G) σ σ' → TSt σ' te tk tp lo (xT X) B N a' nm pf ps → TBb G W σ' X dB dP false la T' → K true σ') : C_X9_readTable l G (d + 8) te σ K := by
  obtain ⟨r1, r2⟩ := hR.ck
  refine m_X9_readTable h.rv9 ?_
  simp only [F_X9_readTable, h.n2, h.n0, fZ_at hT.1.2, rZ8_0, rP8_0, rZ8_1, rP8_1, rZ8_2, rP8_2, rR8_3, rN8_3, rP8_3, rR8_4, rN8_4, rP8_4, rI8_5, rP8_5, rI8_6, rP8_6, rZ8_7, rP8_7, rR8_8, rN8_8, rP8_8]
  refine ⟨fun e => ?_, fun e => s_X9_fail (d := d + 6) (f := 3) h fun σ' k f => hF 3 a (r2 (by rw [e]; rfl)) σ' (hC.s9 k) f⟩
  have r := r1 (by rw [e]; rfl)
  refine s_adv (d := d + 4) h h1 fun σ1 k1 g1 => ?_
  have hT1 := hT.k9 k1 (S9.t h)
  have hC1 := hC.kp (hC.s9 k1)
  simp only [g1.n0]
  have f53 : eK B N (nx B N a) ≠ 1 → RS Fl Gd (tabE B N (nx B N (nx B N a)) (isW B N (nx B N a) kwWi) T []) → F_X9_readTable_53 l G (d + 7) te σ1 K := by
    intro hk r'
    simp only [F_X9_readTable_53, g1.n2, pF_at hT1.1.2, rZ8_0, rP8_0, rZ8_1, rP8_1, rZ8_2, rP8_2, rR8_3, rN8_3, rP8_3, rR8_4, rN8_4, rP8_4, rI8_5, rP8_5, rI8_6, rP8_6, rZ8_7, rP8_7, rR8_8, rN8_8, rP8_8]
    obtain ⟨g2, hT2, k2⟩ := sTT g1 hC1 hT1 true T.1.2.1 T.1.2.2 T.2.2.2
    simp only [g2.n2, g2.n0]
    refine s_X10_isWord (d := d + 2) (j := 2) (q := ("CoinsLaid$Telling", 99, "wins", kwWi)) g2.1 g2.2.2.2 g2.2.1 rfl ?_
    obtain ⟨g3, hT3, k3⟩ := sTT g1 hC1 hT1 true (isW B N (nx B N a) kwWi) T.1.2.2 T.2.2.2
    have hC3 := hC1.kp k3
    simp only [pF_hs, rZ8_0, rP8_0, rZ8_1, rP8_1, rZ8_2, rP8_2, rR8_3, rN8_3, rP8_3, rR8_4, rN8_4, rP8_4, rI8_5, rP8_5, rI8_6, rP8_6, rZ8_7, rP8_7, rR8_8, rN8_8, rP8_8]
    show fN (hset σ1 (xT X) (O8 true (isW B N (nx B N a) kwWi) T.1.2.2 (some (xB X)) (some (xP X)) (nI (nsq T.2.1)) (nI T.2.2.2) false (some la))) te 9 0 _
    generalize hset σ1 (xT X) (O8 true (isW B N (nx B N a) kwWi) T.1.2.2 (some (xB X)) (some (xP X)) (nI (nsq T.2.1)) (nI T.2.2.2) false (some la)) = σ3 at g3 hT3 k3 hC3
    simp only [g3.n0]
    refine s_adv (d := d + 4) g3 hk fun σ4 k4 g4 => ?_
    have hT4 := hT3.k9 k4 (S9.t g3)
    have hC4 := hC3.kp (hC3.s9 k4)
    have k04 := ((hC.s9 k1).tr k3).tr (hC.s9 k4)
    simp only [g4.n2]
    refine s_X9_passPerhaps (d := d + 1) (j := 3) g4 rfl (fun e2 σ5 k5 g5 => ?_) fun e2 => ?_
    · have hT5 := hT4.k9 k5 (S9.t g4)
      have hC5 := hC4.kp (hC4.s9 k5)
      simp only [pF_at hT5.1.2, rZ8_0, rP8_0, rZ8_1, rP8_1, rZ8_2, rP8_2, rR8_3, rN8_3, rP8_3, rR8_4, rN8_4, rP8_4, rI8_5, rP8_5, rI8_6, rP8_6, rZ8_7, rP8_7, rR8_8, rN8_8, rP8_8]
      obtain ⟨g6, hT6, k6⟩ := sTT g5 hC5 hT5 true (isW B N (nx B N a) kwWi) true T.2.2.2
      refine hK _ _ ((true, isW B N (nx B N a) kwWi, true), T.2) ?_ rfl ((k04.tr (hC.s9 k5)).tr k6) g6 hT6
      unfold tabE at r'
      rw [if_pos (show isW B N (nx B N (nx B N a)) kwAp = true from e2)] at r'
      exact r'
    · simp only [pF_at hT4.1.2, rZ8_0, rP8_0, rZ8_1, rP8_1, rZ8_2, rP8_2, rR8_3, rN8_3, rP8_3, rR8_4, rN8_4, rP8_4, rI8_5, rP8_5, rI8_6, rP8_6, rZ8_7, rP8_7, rR8_8, rN8_8, rP8_8]
      obtain ⟨g6, hT6, k6⟩ := sTT g4 hC4 hT4 true (isW B N (nx B N a) kwWi) false T.2.2.2
      refine hK _ _ ((true, isW B N (nx B N a) kwWi, false), T.2) ?_ rfl (k04.tr k6) g6 hT6
      unfold tabE at r'
      rw [if_neg (by rw [show isW B N (nx B N (nx B N a)) kwAp = false from e2]; decide)] at r'
      exact r'
  unfold tabL at r
  have hlw : isW B N (nx B N a) kwLo = true → isW B N (nx B N a) kwWi = false := fun e1 => by
    simp only [isW, decide_eq_true_eq] at e1
    rw [isW, decide_eq_false]
    rintro ⟨-, h2⟩
    rw [e1.2] at h2
    exact absurd h2 (by decide)
  refine s_X10_isWord (d := d + 2) (j := 1) g1.1 g1.2.2.2 g1.2.1 rfl ?_
  refine ⟨fun e1 => f53 (isW_1 (w := kwLo) e1) ?_, fun e1 => ?_⟩
  · have e3 := hlw e1
    rw [if_neg (by rw [e3]; decide)] at r
    rw [e3]
    exact r.ckW.1 e1
  simp only [g1.n0]
  refine s_X10_isWord (d := d + 2) (j := 2) g1.1 g1.2.2.2 g1.2.1 rfl ?_
  refine ⟨fun e2 => f53 (isW_1 (w := kwWi) e2) ?_, fun e2 => ?_⟩
  · have e3 : isW B N (nx B N a) kwWi = true := e2
    rw [if_pos e3] at r
    rw [e3]
    exact r
  · have e3 : isW B N (nx B N a) kwWi = false := e2
    rw [if_neg (by rw [e3]; decide)] at r
    exact s_X9_fail (d := d + 6) (f := 1) g1 fun σ' k f => hF 1 _ (r.ckW.2 e1) σ' ((hC.s9 k1).tr (hC.s9 k)) f
theorem TBb.w0 (hT : TBb G W σ X dB dP mk la T) (hC : CX G W σ te tk) {S : Nat → Prop} (hS : ∀ q, S q → q = xT X ∨ q = xB X ∨ (q = dB ∧ 0 < T.2.1.length) ∨ q = xP X ∨ (q = dP ∧ 0 < T.2.2.1.length)) (hk : Kp S σ σ') : Kp (W0 W G) σ σ' := hk.mo fun q _ hs => by
  obtain ⟨t1, ⟨t2, t3⟩, ⟨t4, t5⟩, t6, t7⟩ := hT.tt
  rcases hS q hs with rfl | rfl | ⟨rfl, h0⟩ | rfl | ⟨rfl, h0⟩
  · exact ⟨hT.1.1, hC.ne t1 (by decide)⟩
  · exact ⟨hT.2.1.1, hC.ne t2 (by decide)⟩
  · obtain ⟨md, g, _, _, b3, _⟩ := hT.2.1.2.2
    exact ⟨hT.2.1.2.1, fun e => by have := b3.mpr e; omega⟩
  · exact ⟨hT.2.2.1.1, hC.ne t4 (by decide)⟩
  · obtain ⟨md, g, _, _, b3, _⟩ := hT.2.2.1.2.2
    exact ⟨hT.2.2.1.2.1, fun e => by have := b3.mpr e; omega⟩
theorem TSt.kb (h : TSt σ te tk tp lo (xT X) B N a nm pf ps) (hT : TBb G W σ X dB dP mk la T) (hd : tp ≠ dB ∧ tp ≠ dP) {S : Nat → Prop} (hS : ∀ q, S q → q = xT X ∨ q = xB X ∨ (q = dB ∧ 0 < T.2.1.length) ∨ q = xP X ∨ (q = dP ∧ 0 < T.2.2.1.length)) (hk : Kp S σ σ') : TSt σ' te tk tp lo (xT X) B N a nm pf ps := by
  obtain ⟨t1, ⟨t2, t3⟩, ⟨t4, t5⟩, t6, t7⟩ := hT.tt
  obtain ⟨u1, u2, u3⟩ := h.tt
  have hn : ∀ {z t}, tg σ z t → (t = 9 ∨ t = 10) → ¬ S z := fun {z t} hz ht hs => by
    rcases hS z hs with rfl | rfl | ⟨rfl, h0⟩ | rfl | ⟨rfl, h0⟩
    · exact tg_ne hz t1 (by omega) rfl
    · exact tg_ne hz t2 (by omega) rfl
    · exact tg_ne hz t3 (by omega) rfl
    · exact tg_ne hz t4 (by omega) rfl
    · exact tg_ne hz t5 (by omega) rfl
  refine h.kp hk (hn u1 (by decide)) (hn u2 (by decide)) fun hs => ?_
  rcases hS tp hs with rfl | rfl | ⟨rfl, h0⟩ | rfl | ⟨rfl, h0⟩
  · exact tg_ne u3 t1 (by decide) rfl
  · exact tg_ne u3 t2 (by decide) rfl
  · exact hd.1 rfl
  · exact tg_ne u3 t4 (by decide) rfl
  · exact hd.2 rfl
theorem s_X9_readBoard (h : TSt σ te tk tp lo (xT X) B N a nm pf ps) (hT : TBb G W σ X dB dP false la T) (hC : CX G W σ te tk) (hW : WFT T) (htp : ¬ W tp) (h1 : eK B N a ≠ 1) (hR : RS Fl Gd (ck (decide (T.2.1.length < 3)) 5 a (boaL B N (nx B N a) T []))) (hF : ∀ f p, Fl f p → ∀ σ', Kp (W0 W G) σ σ' → FLt σ' te f p → K false σ') (hmc : 2 ≤ mc) (hms : 20 ≤ ms) (hK : ∀ σ' X' dB' a' T' nm' , Gd a' T' [] → xT X' = xT X → T'.2.1.length = T.2.1.length + 1 → T'.2.2.1 = T.2.2.1 → Kp (W0 W G) σ σ' → TSt σ' te tk tp lo (xT X') B N a' nm' pf ps → TBb G W σ' X' dB' dP false la T' → K true σ') : C_X9_readBoard l G (d + 12) mc ms te σ K := by
  have h3 := hW.1.1
  have hwd : ∀ {σ : Hp} {X dB dP mk la} {T : TB}, TBb G W σ X dB dP mk la T → tp ≠ dB ∧ tp ≠ dP := fun {σ X dB dP mk la T} hT => ⟨fun e => htp (e ▸ hT.2.1.2.1), fun e => htp (e ▸ hT.2.2.1.2.1)⟩
  obtain ⟨r1, r2⟩ := hR.ck
  refine m_X9_readBoard h.rv9 ?_
  simp only [F_X9_readBoard, h.n2, fN_at hT.1.2, rZ8_0, rP8_0, rZ8_1, rP8_1, rZ8_2, rP8_2, rR8_3, rN8_3, rP8_3, rR8_4, rN8_4, rP8_4, rI8_5, rP8_5, rI8_6, rP8_6, rZ8_7, rP8_7, rR8_8, rN8_8, rP8_8]
  refine s_size (d := d + 10) (hT.lb hW) ?_
  have f20 : ∀ b, b = decide (T.2.1.length < 3) → F_X9_readBoard_20 l G (d + 11) te te b σ mc ms K := by
    intro b hb
    subst hb
    simp only [F_X9_readBoard_20, F_X9_readBoard_33, F_X9_readBoard_54, F_X9_readBoard_89]
    refine s_X9_passFirstWord (d := d + 7) h h1 hT.1.2 (fun e1 _ σ1 k1 g1 => ⟨fun hc => (by cases hc), fun _ => ?_⟩) (fun e1 σ1 k1 f1 => ⟨fun _ => hF 5 a (r2 e1) σ1 (hC.s9 k1) f1, fun hc => by cases hc⟩) fun _ hc => by cases hc
    have hT1 := hT.k9 k1 (S9.t h)
    obtain ⟨r3, r4, r5⟩ := (r1 e1).ckNm
    refine s_X9_passNewName (d := d + 4) g1 hT1 hW (fun e2 e3 σ2 k2 g2 => ⟨fun _ => ?_, fun hc => by cases hc⟩) (fun e2 σ2 k2 f2 => ⟨fun hc => (by cases hc), fun _ => hF 1 _ (r4 e2) σ2 (hC.s9 (k1.tr k2)) f2⟩) fun e2 e3 σ2 k2 f2 => ⟨fun hc => (by cases hc), fun _ => hF 3 _ (r5 e2 e3) σ2 (hC.s9 (k1.tr k2)) f2⟩
    obtain ⟨r6, r7⟩ := (r3 e2 e3).ckW
    refine s_X9_passWord (d := d + 4) (j := 10) g2 rfl (fun e4 σ3 k3 g3 => ⟨fun hc => (by cases hc), fun _ => ?_⟩) fun e4 σ3 k3 f3 => ⟨fun _ => hF 1 _ (r7 e4) σ3 (hC.s9 ((k1.tr k2).tr k3)) f3, fun hc => by cases hc⟩
    obtain ⟨r8, r9, r10⟩ := (r6 e4).ckN
    refine s_X9_isWholeWithin (d := d + 8) (c1 := 1) (c2 := 8) g3 (by decide) (by decide) (fun e5 e6 e7 => ⟨fun _ => ?_, fun hc => by cases hc⟩) (fun e5 σ4 k4 f4 => ⟨fun hc => (by cases hc), fun _ => hF 1 _ (r9 e5) σ4 (hC.s9 (((k1.tr k2).tr k3).tr k4)) f4⟩) fun e5 e6 σ4 k4 f4 => ⟨fun hc => (by cases hc), fun _ => hF 4 _ (r10 e5 e6) σ4 (hC.s9 (((k1.tr k2).tr k3).tr k4)) f4⟩
    obtain ⟨r11, r12⟩ := (r8 e5 e6 e7).ckW
    simp only [g3.n0]
    refine s_X10_wholeValue (d := d + 9) g3.1 g3.2.2.2 g3.2.1 e5 ?_
    simp only [g3.n0]
    refine s_adv (d := d + 8) g3 (by omega) fun σ4 k4 g4 => ?_
    refine s_X9_passWord (d := d + 4) (j := 11) g4 rfl (fun e8 σ5 k5 g5 => ⟨fun hc => (by cases hc), fun _ => ?_⟩) fun e8 σ5 k5 f5 => ⟨fun _ => hF 1 _ (r12 e8) σ5 (hC.s9 ((((k1.tr k2).tr k3).tr k4).tr k5)) f5, fun hc => by cases hc⟩
    obtain ⟨r13, r14, r15⟩ := (r11 e8).ckN
    refine s_X9_isWholeWithin (d := d + 8) (c1 := 1) (c2 := 4) g5 (by decide) (by decide) (fun e9 e10 e11 => ⟨fun _ => ?_, fun hc => by cases hc⟩) (fun e9 σ6 k6 f6 => ⟨fun hc => (by cases hc), fun _ => hF 1 _ (r14 e9) σ6 (hC.s9 (((((k1.tr k2).tr k3).tr k4).tr k5).tr k6)) f6⟩) fun e9 e10 σ6 k6 f6 => ⟨fun hc => (by cases hc), fun _ => hF 4 _ (r15 e9 e10) σ6 (hC.s9 (((((k1.tr k2).tr k3).tr k4).tr k5).tr k6)) f6⟩
    obtain ⟨r16, r17⟩ := (r13 e9 e10 e11).ck
    have k05 := (((k1.tr k2).tr k3).tr k4).tr k5
    have hT5 := hT.k9 k05 (S9.t h)
    have hC5 := hC.kp (hC.s9 k05)
    simp only [g5.n0]
    refine s_X10_wholeValue (d := d + 9) g5.1 g5.2.2.2 g5.2.1 e9 ?_
    simp only [g5.n2, fI_at hT5.1.2, rZ8_0, rP8_0, rZ8_1, rP8_1, rZ8_2, rP8_2, rR8_3, rN8_3, rP8_3, rR8_4, rN8_4, rP8_4, rI8_5, rP8_5, rI8_6, rP8_6, rZ8_7, rP8_7, rR8_8, rN8_8, rP8_8, nt_mul, nt_add]
    have hm : tV B N (nx B N (nx B N (nx B N a))) * tV B N (nx B N (nx B N (nx B N (nx B N (nx B N a))))) ≤ 8 * 4 := Nat.mul_le_mul e7 e11
    have hs := hW.1.2.1
    rw [show (14 : Int32) = nI 14 from rfl, nt_le (by omega) (by decide)]
    refine ⟨fun e12 => ?_, fun e12 => s_X9_fail (d := d + 10) (f := 4) g5 fun σ6 k6 f6 => hF 4 _ (r17 (decide_eq_false e12)) σ6 (hC.s9 (k05.tr k6)) f6⟩
    simp only [g5.j5]
    refine ⟨mc, ms, Nat.le_refl _, Nat.le_refl _, ?_⟩
    refine s_X8_addBoard (d := d + 2) hT5 hC5.n hC5.2.1 hW (by simpa using e1) hmc hms fun σ6 X' dB' x1 k6 hT6 => ?_
    have hS6 : ∀ q, (q = xT X ∨ q = xB X ∨ q = dB ∧ 0 < T.2.1.length) → q = xT X ∨ q = xB X ∨ (q = dB ∧ 0 < T.2.1.length) ∨ q = xP X ∨ (q = dP ∧ 0 < T.2.2.1.length) := by
      rintro q (e | e | e)
      · exact Or.inl e
      · exact Or.inr (Or.inl e)
      · exact Or.inr (Or.inr (Or.inl e))
    have g6 := g5.kb hT5 (hwd hT5) hS6 k6
    have k6' := hT5.w0 hC5 hS6 k6
    simp only [g6.n0]
    refine s_adv (d := d + 8) g6 (by omega) fun σ7 k7 g7 => ?_
    refine hK σ7 X' dB' _ _ _ (r16 (decide_eq_true e12)) x1 (by simp [addB]) rfl (((hC.s9 k05).tr k6').tr (hC.s9 k7)) (by rw [x1]; exact g7) (hT6.k9 k7 (S9.t g6))
  rw [show (3 : Int32) = nI 3 from rfl, nt_le (by decide) (by omega)]
  exact ⟨fun e => f20 false (by rw [decide_eq_false]; omega), fun e => f20 true (by rw [decide_eq_true]; omega)⟩
theorem s_X9_readJug (h : TSt σ te tk tp lo (xT X) B N a nm pf ps) (hT : TBb G W σ X dB dP false la T) (hC : CX G W σ te tk) (hW : WFT T) (h1 : eK B N a ≠ 1) (hR : RS Fl Gd (jugL B N (nx B N a) T [])) (hF : ∀ f p, Fl f p → ∀ σ', Kp (W0 W G) σ σ' → FLt σ' te f p → K false σ') (hK : ∀ σ' a' T' pf' ps', Gd a' T' [] → T'.2.1 = T.2.1 → T'.2.2.1 = T.2.2.1 → Kp (W0 W G) σ σ' → TSt σ' te tk tp lo (xT X) B N a' nm pf' ps' → TBb G W σ' X dB dP false la T' → K true σ') : C_X9_readJug l G (d + 8) te σ K := by
  refine m_X9_readJug h.rv9 ?_
  simp only [F_X9_readJug]
  refine s_X9_passFirstWord (d := d + 3) (b := true) h h1 hT.1.2 (fun _ _ σ1 k1 g1 => ⟨fun _ => ?_, fun hc => by cases hc⟩) (fun hc => by cases hc) fun _ hc => by cases hc
  have hT1 := hT.k9 k1 (S9.t h)
  unfold jugL at hR
  obtain ⟨r1, r2⟩ := hR.ck
  simp only [g1.n0]
  refine s_X10_isName (d := d + 1) g1.1 g1.2.2.2 g1.2.1 ⟨fun e1 => ?_, fun e1 => s_X9_fail (d := d + 6) (f := 1) g1 fun σ2 k2 f2 => hF 1 _ (r2 e1) σ2 (hC.s9 (k1.tr k2)) f2⟩
  have hk := nmOK_k e1
  have r := r1 e1
  rw [jB hW] at r
  simp only [g1.n0, g1.n2]
  refine s_X10_wordCode (d := d + 5) g1.1 g1.2.2.2 g1.2.1 hk ?_
  refine s_X8_boardNamed (d := d + 2) hT1 hW (tw_NM g1.2.2.2 hk) ?_
  cases hf : fB (tw B N (nx B N a)) T.2.1 0 with
  | none =>
    rw [hf] at r
    exact ⟨fun b hb => (by cases hb), fun _ => s_X9_fail (d := d + 6) (f := 2) g1 fun σ2 k2 f2 => hF 2 _ r σ2 (hC.s9 (k1.tr k2)) f2⟩
  | some k =>
    obtain ⟨-, b, hb, -, -⟩ := fB_some _ _ hf
    rw [Nat.sub_zero] at hb
    rw [hf, Option.bind_some, hb] at r
    refine ⟨fun b' hb' => ?_, fun hc => by cases hc⟩
    simp only [Option.map_some, Option.some.injEq] at hb'
    subst hb'
    obtain ⟨hbb1, hbb2, hbb3, hbb4, hbb5⟩ := id (hW.BB hb)
    simp only [g1.n0]
    refine s_adv (d := d + 4) g1 (by omega) fun σ2 k2 g2 => ?_
    have hT2 := hT1.k9 k2 (S9.t g1)
    have hc2 := (hT2.2.2.2.2.1 k b hb).2
    simp only [fI_at hc2, rI0_0, rP0_0, rJ0_1, rP0_1, rI0_2, rP0_2, rI0_3, rP0_3, rI0_4, rP0_4, show nI b.1 - 1 = nI (b.1 - 1) from nt_sub (b := 1) (by omega) (by omega), show nI b.2.1 - 1 = nI (b.2.1 - 1) from nt_sub (b := 1) (by omega) (by omega)]
    refine s_X9_readPair (d := d + 2) (c1 := 0) g2 (by decide) (by omega) (by omega) r (fun f p hf σ3 k3 f3 => ⟨fun hc => (by cases hc), fun _ => hF f p hf σ3 (hC.s9 ((k1.tr k2).tr k3)) f3⟩) fun r3 x1 x2 e3 y1 y2 σ3 k3 g3 => ⟨fun _ => ?_, fun hc => by cases hc⟩
    obtain ⟨r4, r5⟩ := r3.ck
    have k03 := (k1.tr k2).tr k3
    have hT3 := hT.k9 k03 (S9.t h)
    have hC3 := hC.kp (hC.s9 k03)
    have hc3 := (hT3.2.2.2.2.1 k b hb).2
    simp only [g3.i6, g3.i7]
    refine s_X0_bit (d := d + 6) (hW.BB hb) hc3 ?_
    have hin := (hW.BB hb).in (x := tV B N (nx B N (nx B N a))) (y := tV B N (nx B N (nx B N (nx B N (nx B N a))))) (by omega) (by omega)
    have hj := tb_j hW
    have he : b.2.2.1 + (b.1 * tV B N (nx B N (nx B N (nx B N (nx B N a)))) + tV B N (nx B N (nx B N a))) = b.2.2.1 + b.1 * tV B N (nx B N (nx B N (nx B N (nx B N a)))) + tV B N (nx B N (nx B N a)) := by omega
    rw [bitV_in (hW.BB hb) (by omega) (by omega), he]
    rw [he] at hin
    simp only [g3.n2, fI_at hT3.1.2, rZ8_0, rP8_0, rZ8_1, rP8_1, rZ8_2, rP8_2, rR8_3, rN8_3, rP8_3, rR8_4, rN8_4, rP8_4, rI8_5, rP8_5, rI8_6, rP8_6, rZ8_7, rP8_7, rR8_8, rN8_8, rP8_8]
    rw [nt_and0 (by omega), fb_bit_nat]
    refine ⟨fun e4 => ?_, fun e4 => s_X9_fail (d := d + 6) (f := 3) g3 fun σ4 k4 f4 => hF 3 _ (r5 (by simpa using e4)) σ4 (hC.s9 (k03.tr k4)) f4⟩
    simp only [pF_at hT3.1.2, rZ8_0, rP8_0, rZ8_1, rP8_1, rZ8_2, rP8_2, rR8_3, rN8_3, rP8_3, rR8_4, rN8_4, rP8_4, rI8_5, rP8_5, rI8_6, rP8_6, rZ8_7, rP8_7, rR8_8, rN8_8, rP8_8, nt_or]
    obtain ⟨g4, hT4, k4⟩ := sTT g3 hC3 hT3 T.1.1 T.1.2.1 T.1.2.2 (T.2.2.2 ||| 2 ^ (b.2.2.1 + b.1 * tV B N (nx B N (nx B N (nx B N (nx B N a)))) + tV B N (nx B N (nx B N a))))
    simp only [g4.n0]
    refine s_adv (d := d + 4) g4 (by omega) fun σ5 k5 g5 => ?_
    exact hK σ5 _ _ _ _ (r4 (by rw [e4]; rfl)) rfl rfl (((hC.s9 k03).tr k4).tr (hC.s9 k5)) g5 (hT4.k9 k5 (S9.t g4))
theorem s_addPiece (hT : TBb G W σ X dB dP false la T) (hC : CX G W σ te tk) (hWT : WFT T) (hp4 : T.2.2.1.length < 4) {p : PC} {q : Nat} (hWq : W q) (hq : σ q = some (PCc T.2.2.1.length (wcd p.2.2.2.2.2) p)) (hmc : 1 ≤ mc) (hms : 10 ≤ ms) (hK : ∀ σ' X' dP', xT X' = xT X → Kp (fun q => q = xP X ∨ q = dP ∧ 0 < T.2.2.1.length) σ σ' → TBb G W σ' X' dB dP' false la (addP T p) → K true σ') : C_Jx4a65c_add_9ea2d l G (d + 8) mc ms (xP X) q σ K := by
  obtain ⟨u1, ⟨u2, u3⟩, ⟨u4, u5⟩, u6, u7⟩ := hT.tt
  have hc10 : cst T.2.2.1.length ≤ 10 := by
    rcases (show T.2.2.1.length = 0 ∨ T.2.2.1.length = 1 ∨ T.2.2.1.length = 2 ∨ T.2.2.1.length = 3 by omega) with e | e | e | e <;> rw [e] <;> decide
  refine s_add (d := d) hT.2.2.1.2.2 hC.n (by omega) (t := 5) ⟨_, hq⟩ (Or.inr (Or.inl rfl)) (by omega) (by omega) fun σ3 dP' k3 e3 a3 => ?_
  have hq3 : ∀ {z t c}, σ z = some c → tgc c = t → (t = 0 ∨ t = 5 ∨ t = 8) → σ3 z = some c := fun {z t c} hz ht h05 => k3.at hz (by
    rintro (e | ⟨e, -⟩)
    · exact tg_ne ⟨_, hz, ht⟩ u4 (by omega) e
    · exact tg_ne ⟨_, hz, ht⟩ u5 (by omega) e)
  refine hK σ3 (xT X, xB X, xP X, xL' X, xb X, (fun i => if i = T.2.2.1.length then q else xp X i), xl X) dP' rfl k3 ⟨⟨hT.1.1, hq3 hT.1.2 rfl (Or.inr (Or.inr rfl))⟩, ⟨hT.2.1.1, hT.2.1.2.1, ?_⟩, ⟨hT.2.2.1.1, ?_, ?_⟩, ⟨hT.2.2.2.1.1, ?_⟩, fun k b hk => ⟨(hT.2.2.2.2.1 k b hk).1, hq3 (hT.2.2.2.2.1 k b hk).2 rfl (Or.inl rfl)⟩, fun k p' hk => ?_⟩
  · refine hT.2.1.2.2.kp k3 ?_ ?_ ?_
    · rintro (e | ⟨e, -⟩)
      · exact hT.2.2.2.1.1 e
      · exact tg_ne u2 u5 (by decide) e
    · rintro (e | ⟨e, h0⟩)
      · exact tg_ne u3 u4 (by decide) e
      · have h9 := hT.2.2.2.1.2 e
        obtain ⟨md, g, _, _, b3, _⟩ := hT.2.2.1.2.2
        have := b3.mpr (e.symm.trans h9)
        omega
    · rintro i hi (e | ⟨e, -⟩)
      · obtain ⟨p, hp⟩ : ∃ p, T.2.1[i]? = some p := ⟨_, List.getElem?_eq_getElem hi⟩
        exact tg_ne (u6 i p hp) u4 (by decide) e
      · obtain ⟨p, hp⟩ : ∃ p, T.2.1[i]? = some p := ⟨_, List.getElem?_eq_getElem hi⟩
        exact tg_ne (u6 i p hp) u5 (by decide) e
  · rcases e3 with ⟨e4, -⟩ | e4
    · rw [e4]; exact hT.2.2.1.2.1
    · exact hC.2.1 _ e4
  · simpa [addP] using a3
  · intro e
    exfalso
    rcases e3 with ⟨e4, h0⟩ | e4
    · have h9 := hT.2.2.2.1.2 (e.trans e4)
      obtain ⟨md, g, _, _, b3, _⟩ := hT.2.2.1.2.2
      have := b3.mpr ((e.trans e4).symm.trans h9)
      omega
    · obtain ⟨c, h9, -⟩ := u3
      rw [← e, h9] at e4
      cases e4
  · simp only [addP] at hk
    by_cases hl : k < T.2.2.1.length
    · rw [List.getElem?_append_left hl] at hk
      have h9 := hT.2.2.2.2.2 k p' hk
      simp only [xp]
      rw [if_neg (by omega)]
      exact ⟨h9.1, hq3 h9.2 rfl (Or.inr (Or.inl rfl))⟩
    · have := (List.getElem?_eq_some_iff.mp hk).1
      rw [List.length_append, List.length_cons, List.length_nil] at this
      obtain rfl : k = T.2.2.1.length := by omega
      simp only [List.getElem?_concat_length, Option.some.injEq] at hk
      subst hk
      simp only [xp, if_true]
      exact ⟨hWq, hq3 hq rfl (Or.inr (Or.inl rfl))⟩
theorem ownI_1 : ownI 0 = -1 ∧ ownI 1 = 0 ∧ ownI 2 = 1 := ⟨rfl, rfl, rfl⟩
theorem z_pc113 {nmL : List Nat} {w hh : Nat} (h : TSt σ te tk tp lo (xT X) B N a (wcd nmL) (nI w) (nI hh)) (hT : TBb G W σ X dB dP false la T) (hC : CX G W σ te tk) (hW : WFT T) (hp4 : T.2.2.1.length < 4) (htp : ¬ W tp) {kd : Nat} (hR : RS Fl Gd (pieT B N a kd w hh nmL T [])) (hmc : 2 ≤ mc) (hms : 20 ≤ ms) (hK : ∀ σ' X' dP' a' T', Gd a' T' [] → xT X' = xT X → T'.2.1 = T.2.1 → T'.2.2.1.length = T.2.2.1.length + 1 → Kp (W0 W G) σ σ' → TSt σ' te tk tp lo (xT X') B N a' (wcd nmL) (nI w) (nI hh) → TBb G W σ' X' dB dP' false la T' → K true σ') : F_X9_readPiece_113 l G (d + 8) te (nI kd) σ mc ms K := by
  have hwd : ∀ {σ : Hp} {X dB dP mk la} {T : TB}, TBb G W σ X dB dP mk la T → tp ≠ dB ∧ tp ≠ dP := fun {σ X dB dP mk la T} hT => ⟨fun e => htp (e ▸ hT.2.1.2.1), fun e => htp (e ▸ hT.2.2.1.2.1)⟩
  simp only [F_X9_readPiece_113]
  refine ⟨by omega, by omega, fun q hq => ?_⟩
  have hkq : ∀ c, Kp (fun _ => False) σ (hset σ q c) := fun c => Kp.set fun hc => absurd hq hc
  have h1 := h.kp (hkq (O5 0 0 0 0 0 false 0)) (fun hc => hc) (fun hc => hc) fun hc => hc
  have hT1 := hT.kp (hkq (O5 0 0 0 0 0 false 0)) fun _ _ hc => hc
  simp only [h1.n2, fN_at hT1.1.2, rZ8_0, rP8_0, rZ8_1, rP8_1, rZ8_2, rP8_2, rR8_3, rN8_3, rP8_3, rR8_4, rN8_4, rP8_4, rI8_5, rP8_5, rI8_6, rP8_6, rZ8_7, rP8_7, rR8_8, rN8_8, rP8_8]
  refine s_size (d := d + 7) (hT1.lp hW) ?_
  simp only [h1.j5, h1.i6, h1.i7]
  refine m_X5_init ?_
  simp only [F_X5_init, pF_hs, rI5_0, rP5_0, rJ5_1, rP5_1, rI5_2, rP5_2, rI5_3, rP5_3, rI5_4, rP5_4, rZ5_5, rP5_5, rI5_6, rP5_6]
  have h2 := h.kp (hkq (O5 (nI T.2.2.1.length) (wcd nmL) (nI kd) (nI w) (nI hh) false (-1))) (fun hc => hc) (fun hc => hc) fun hc => hc
  have hT2 := hT.kp (hkq (O5 (nI T.2.2.1.length) (wcd nmL) (nI kd) (nI w) (nI hh) false (-1))) fun _ _ hc => hc
  have hq2 : (hset σ q (O5 (nI T.2.2.1.length) (wcd nmL) (nI kd) (nI w) (nI hh) false (-1))) q = _ := hset_eq ..
  have k2 : Kp (W0 W G) σ (hset σ q (O5 (nI T.2.2.1.length) (wcd nmL) (nI kd) (nI w) (nI hh) false (-1))) := (hkq _).mo fun _ _ hc => hc.elim
  have hC2 := hC.kp k2
  have hWq := hC.2.1 q hq
  have hqE : q ≠ gE G := fun e => by rw [e, hC.1] at hq; cases hq
  generalize hset σ q (O5 (nI T.2.2.1.length) (wcd nmL) (nI kd) (nI w) (nI hh) false (-1)) = σ2 at h2 hT2 hq2 k2 hC2
  -- with turns told or not
  have g2 : ∀ (tn : Bool) a1 σ3, RS Fl Gd (pieO B N a1 kd w hh tn nmL T []) → Kp (W0 W G) σ σ3 → TSt σ3 te tk tp lo (xT X) B N a1 (wcd nmL) (nI w) (nI hh) → TBb G W σ3 X dB dP false la T → σ3 q = some (O5 (nI T.2.2.1.length) (wcd nmL) (nI kd) (nI w) (nI hh) false (-1)) → pF σ3 q 5 5 (aI (bi tn)) fun σ14 => C_X9_ownerTold l G (d + 8) te σ14 fun r17 σ16 => pF σ16 q 5 6 (aI r17) fun σ18 => fN σ18 te 9 2 fun x20 => fN σ18 x20 8 4 fun x21 => ∃ mz24 sz25, mz24 ≤ (mc - 1) ∧ sz25 ≤ (ms - 7) ∧ C_Jx4a65c_add_9ea2d l G (d + 8) mz24 sz25 x21 q σ18 fun r23 σ22 => K true σ22 := by
    intro tn a1 σ3 r k3 h3 hT3 hq3
    have tq : ∀ {σ : Hp} {c}, σ q = some c → tgc c = 5 → tg σ q 5 := fun h1 h2 => ⟨_, h1, h2⟩
    have hset3 : ∀ {σ : Hp} {a : Nat} {c c' : CE}, TSt σ te tk tp lo (xT X) B N a (wcd nmL) (nI w) (nI hh) → TBb G W σ X dB dP false la T → σ q = some c → tgc c = 5 → (∀ k b, T.2.2.1[k]? = some b → xp X k ≠ q) → TSt (hset σ q c') te tk tp lo (xT X) B N a (wcd nmL) (nI w) (nI hh) ∧ TBb G W (hset σ q c') X dB dP false la T := by
      intro σ a c c' h hT hq hc hne
      have t5 := tq hq hc
      obtain ⟨v1, v2, v3⟩ := h.tt
      obtain ⟨t1, ⟨t2, t3⟩, ⟨t4, t5'⟩, t6, t7⟩ := hT.tt
      have hk : Kp (fun z => z = q) σ (hset σ q c') := Kp.set fun _ => rfl
      refine ⟨h.kp hk (tg_ne v1 t5 (by decide)) (tg_ne v2 t5 (by decide)) (tg_ne v3 t5 (by decide)), ?_⟩
      obtain ⟨⟨a1, a2⟩, ⟨b1, b2, b3⟩, ⟨c1, c2, c3⟩, d1, e1, f1⟩ := hT
      refine ⟨⟨a1, hk.at a2 (tg_ne t1 t5 (by decide))⟩, ⟨b1, b2, b3.kp hk (tg_ne t2 t5 (by decide)) (tg_ne t3 t5 (by decide)) fun i hi => ?_⟩, ⟨c1, c2, c3.kp hk (tg_ne t4 t5 (by decide)) (tg_ne t5' t5 (by decide)) fun i hi => ?_⟩, d1, fun k b hb => ⟨(e1 k b hb).1, hk.at (e1 k b hb).2 (tg_ne (t6 k b hb) t5 (by decide))⟩, fun k p hp => ⟨(f1 k p hp).1, hk.at (f1 k p hp).2 (hne k p hp)⟩⟩
      · obtain ⟨b, hb⟩ : ∃ b, T.2.1[i]? = some b := ⟨_, List.getElem?_eq_getElem hi⟩
        exact tg_ne (t6 i b hb) t5 (by decide)
      · obtain ⟨b, hb⟩ : ∃ b, T.2.2.1[i]? = some b := ⟨_, List.getElem?_eq_getElem hi⟩
        exact hne i b hb
    have hne : ∀ k b, T.2.2.1[k]? = some b → xp X k ≠ q := fun k b hb e => by
      have := (hT.2.2.2.2.2 k b hb).2
      rw [e, hq] at this
      cases this
    obtain ⟨h4, hT4⟩ := hset3 (c' := O5 (nI T.2.2.1.length) (wcd nmL) (nI kd) (nI w) (nI hh) tn (-1)) h3 hT3 hq3 rfl hne
    simp only [pF_at hq3, rI5_0, rP5_0, rJ5_1, rP5_1, rI5_2, rP5_2, rI5_3, rP5_3, rI5_4, rP5_4, rZ5_5, rP5_5, rI5_6, rP5_6]
    have hq4 : (hset σ3 q (O5 (nI T.2.2.1.length) (wcd nmL) (nI kd) (nI w) (nI hh) tn (-1))) q = _ := hset_eq ..
    have k4 : Kp (W0 W G) σ3 (hset σ3 q (O5 (nI T.2.2.1.length) (wcd nmL) (nI kd) (nI w) (nI hh) tn (-1))) := Kp.set fun _ => ⟨hWq, hqE⟩
    generalize hset σ3 q (O5 (nI T.2.2.1.length) (wcd nmL) (nI kd) (nI w) (nI hh) tn (-1)) = σ4 at h4 hT4 hq4 k4
    refine s_X9_ownerTold (d := d + 1) h4 fun σ5 a5 o ho k5 h5 => ?_
    have hT5 := hT4.k9 k5 (S9.t h4)
    have hn5 : ¬ S9 te tk q := fun hs => (S9.t h4 q hs).elim (fun h => tg_ne (tq hq4 rfl) h (by decide) rfl) fun h => tg_ne (tq hq4 rfl) h (by decide) rfl
    have hq5 := k5.at hq4 hn5
    obtain ⟨h6, hT6⟩ := hset3 (c' := O5 (nI T.2.2.1.length) (wcd nmL) (nI kd) (nI w) (nI hh) tn (ownI o)) h5 hT5 hq5 rfl hne
    simp only [pF_at hq5, rI5_0, rP5_0, rJ5_1, rP5_1, rI5_2, rP5_2, rI5_3, rP5_3, rI5_4, rP5_4, rZ5_5, rP5_5, rI5_6, rP5_6]
    have hq6 : (hset σ5 q (O5 (nI T.2.2.1.length) (wcd nmL) (nI kd) (nI w) (nI hh) tn (ownI o))) q = _ := hset_eq ..
    have k6 : Kp (W0 W G) σ5 (hset σ5 q (O5 (nI T.2.2.1.length) (wcd nmL) (nI kd) (nI w) (nI hh) tn (ownI o))) := Kp.set fun _ => ⟨hWq, hqE⟩
    have k06 := ((k3.tr k4).tr (hC.s9 k5)).tr k6
    have hC6 := hC.kp k06
    generalize hset σ5 q (O5 (nI T.2.2.1.length) (wcd nmL) (nI kd) (nI w) (nI hh) tn (ownI o)) = σ6 at h6 hT6 hq6 k6 k06 hC6
    simp only [h6.n2, fN_at hT6.1.2, rZ8_0, rP8_0, rZ8_1, rP8_1, rZ8_2, rP8_2, rR8_3, rN8_3, rP8_3, rR8_4, rN8_4, rP8_4, rI8_5, rP8_5, rI8_6, rP8_6, rZ8_7, rP8_7, rR8_8, rN8_8, rP8_8]
    refine ⟨mc - 1, ms - 7, Nat.le_refl _, Nat.le_refl _, s_addPiece (d := d) (p := (kd, w, hh, tn, o, nmL)) hT6 hC6 hW hp4 hWq hq6 (by omega) (by omega) fun σ7 X' dP' x1 k7 hT7 => ?_⟩
    have hS7 : ∀ z, (z = xP X ∨ z = dP ∧ 0 < T.2.2.1.length) → z = xT X ∨ z = xB X ∨ (z = dB ∧ 0 < T.2.1.length) ∨ z = xP X ∨ (z = dP ∧ 0 < T.2.2.1.length) := by
      rintro z (e | e)
      · exact Or.inr (Or.inr (Or.inr (Or.inl e)))
      · exact Or.inr (Or.inr (Or.inr (Or.inr e)))
    have h7 := h6.kb hT6 (hwd hT6) hS7 k7
    have k7' := hT6.w0 hC6 hS7 k7
    refine hK σ7 X' dP' a5 (addP T (kd, w, hh, tn, o, nmL)) ?_ x1 rfl (by simp [addP]) (k06.tr k7') (by rw [x1]; exact h7) hT7
    unfold pieO at r
    by_cases e1 : isW B N a1 kwFi = true
    · rw [if_pos e1] at r ho
      cases ho
      exact r
    · rw [if_neg e1] at r ho
      by_cases e2 : isW B N a1 kwSe = true
      · rw [if_pos e2] at r ho
        cases ho
        exact r
      · rw [if_neg e2] at r ho
        cases ho
        exact r
  unfold pieT at hR
  refine s_X9_passPerhaps (d := d + 2) (j := 17) h2 rfl (fun e σ3 k3 h3 => ?_) fun e => ?_
  · rw [if_pos (show isW B N a kwTu = true from e)] at hR
    have hn3 : ¬ S9 te tk q := fun hs => (S9.t h2 q hs).elim (fun h => tg_ne ⟨_, hq2, rfl⟩ h (show (5 : Nat) ≠ 9 by decide) rfl) fun h => tg_ne ⟨_, hq2, rfl⟩ h (show (5 : Nat) ≠ 10 by decide) rfl
    exact g2 true _ σ3 hR (k2.tr (hC.s9 k3)) h3 (hT2.k9 k3 (S9.t h2)) (k3.at hq2 hn3)
  · rw [if_neg (by rw [show isW B N a kwTu = false from e]; decide)] at hR
    exact g2 false _ σ2 hR k2 h2 hT2 hq2
theorem s_X9_readPiece (h : TSt σ te tk tp lo (xT X) B N a nm pf ps) (hT : TBb G W σ X dB dP false la T) (hC : CX G W σ te tk) (hW : WFT T) (htp : ¬ W tp) (h1 : eK B N a ≠ 1) (hR : RS Fl Gd (ck (decide (T.2.2.1.length < 4)) 5 a (pieL B N (nx B N a) T []))) (hF : ∀ f p, Fl f p → ∀ σ', Kp (W0 W G) σ σ' → FLt σ' te f p → K false σ') (hmc : 2 ≤ mc) (hms : 20 ≤ ms) (hK : ∀ σ' X' dP' a' T' nm' pf' ps', Gd a' T' [] → xT X' = xT X → T'.2.1 = T.2.1 → T'.2.2.1.length = T.2.2.1.length + 1 → Kp (W0 W G) σ σ' → TSt σ' te tk tp lo (xT X') B N a' nm' pf' ps' → TBb G W σ' X' dB dP' false la T' → K true σ') : C_X9_readPiece l G (d + 12) mc ms te σ K := by
  have h3 := hW.2.1.1
  obtain ⟨r1, r2⟩ := hR.ck
  refine m_X9_readPiece h.rv9 ?_
  simp only [F_X9_readPiece, h.n2, fN_at hT.1.2, rZ8_0, rP8_0, rZ8_1, rP8_1, rZ8_2, rP8_2, rR8_3, rN8_3, rP8_3, rR8_4, rN8_4, rP8_4, rI8_5, rP8_5, rI8_6, rP8_6, rZ8_7, rP8_7, rR8_8, rN8_8, rP8_8]
  refine s_size (d := d + 10) (hT.lp hW) ?_
  have f20 : ∀ b, b = decide (T.2.2.1.length < 4) → F_X9_readPiece_20 l G (d + 11) te te b σ mc ms K := by
    intro b hb
    subst hb
    simp only [F_X9_readPiece_20, F_X9_readPiece_33]
    refine s_X9_passFirstWord (d := d + 7) h h1 hT.1.2 (fun e1 _ σ1 k1 g1 => ⟨fun hc => (by cases hc), fun _ => ?_⟩) (fun e1 σ1 k1 f1 => ⟨fun _ => hF 5 a (r2 e1) σ1 (hC.s9 k1) f1, fun hc => by cases hc⟩) fun _ hc => by cases hc
    have hT1 := hT.k9 k1 (S9.t h)
    have hp4 : T.2.2.1.length < 4 := by simpa using e1
    obtain ⟨r3, r4, r5⟩ := (r1 e1).ckNm
    refine s_X9_passNewName (d := d + 4) g1 hT1 hW (fun e2 e3 σ2 k2 g2 => ⟨fun _ => ?_, fun hc => by cases hc⟩) (fun e2 σ2 k2 f2 => ⟨fun hc => (by cases hc), fun _ => hF 1 _ (r4 e2) σ2 (hC.s9 (k1.tr k2)) f2⟩) fun e2 e3 σ2 k2 f2 => ⟨fun hc => (by cases hc), fun _ => hF 3 _ (r5 e2 e3) σ2 (hC.s9 (k1.tr k2)) f2⟩
    have r := r3 e2 e3
    refine s_X9_kindTold (d := d + 5) g2 ?_
    have k02 := k1.tr k2
    -- the kind is told
    have gk : ∀ kd, kd ≤ 2 → eK B N (nx B N (nx B N a)) ≠ 1 → RS Fl Gd (pieK B N (nx B N (nx B N a)) kd (tw B N (nx B N a)) T []) → ((¬ (nI kd : Int32) = ((-1) : Int32) → C_X10_advance l G (d + 11) tk σ2 fun σ38 => pF σ38 te 9 6 (aI 1) fun σ40 => pF σ40 te 9 7 (aI 1) fun σ42 => ((nI kd : Int32) = 0 → F_X9_readPiece_113 l G (d + 11) te (nI kd) σ42 mc ms K) ∧ (¬ (nI kd : Int32) = 0 → (¬ (nI kd : Int32) = (2 : Int32) → F_X9_readPiece_82 l G (d + 11) te (nI kd) 1 σ42 mc ms K) ∧ ((nI kd : Int32) = (2 : Int32) → F_X9_readPiece_82 l G (d + 11) te (nI kd) 2 σ42 mc ms K))) ∧ ((nI kd : Int32) = ((-1) : Int32) → C_X9_fail l G (d + 11) te 1 σ2 fun r45 σ44 => K r45 σ44)) := by
      intro kd hkd hk1 rk
      refine ⟨fun _ => ?_, fun hc => absurd hc (nI_nm1 (by omega))⟩
      refine s_adv (d := d + 8) g2 hk1 fun σ3 k3 g3 => ?_
      obtain ⟨pl, hte⟩ := id g3.2.2.1
      obtain ⟨g4, m4⟩ := g3.st (pl := pl) (nm' := wcd (tw B N (nx B N a))) (pf' := 1) (ps' := 1)
      simp only [pF_at hte, rR9_0, rN9_0, rP9_0, rR9_1, rN9_1, rP9_1, rR9_2, rN9_2, rP9_2, rI9_3, rP9_3, rI9_4, rP9_4, rJ9_5, rP9_5, rI9_6, rP9_6, rI9_7, rP9_7, pF_hs]
      have k04 := (k02.tr k3).tr m4
      generalize hset σ3 te (O9 (some tk) (some lo) (some (xT X)) 0 pl (wcd (tw B N (nx B N a))) 1 1) = σ4 at g4 m4 k04
      have hT4 := hT.k9 k04 (S9.t h)
      have hC4 := hC.kp (hC.s9 k04)
      rw [nt_0 (by omega), show (2 : Int32) = nI 2 from rfl, nt_eq (by omega) (by decide)]
      unfold pieK at rk
      have fin : ∀ {σ5 a5 w5 h5}, Kp (W0 W G) σ σ5 → TSt σ5 te tk tp lo (xT X) B N a5 (wcd (tw B N (nx B N a))) (nI w5) (nI h5) → TBb G W σ5 X dB dP false la T → RS Fl Gd (pieT B N a5 kd w5 h5 (tw B N (nx B N a)) T []) → F_X9_readPiece_113 l G (d + 11) te (nI kd) σ5 mc ms K := fun {σ5 a5 w5 h5} kk gg hh rr => z_pc113 (d := d + 3) gg hh (hC.kp kk) hW hp4 htp rr hmc hms fun σ' X' dP' a' T' v1 v2 v3 v4 v5 v6 v7 => hK σ' X' dP' a' T' _ _ _ v1 v2 v3 v4 (kk.tr v5) v6 v7
      refine ⟨fun e0 => ?_, fun e0 => ?_⟩
      · subst e0
        rw [if_pos rfl] at rk
        exact fin (w5 := 1) (h5 := 1) (hC.s9 k04) g4 hT4 rk
      · rw [if_neg e0] at rk
        have f93 : ∀ c1 c2, c1 = pLo kd → c2 = pHi kd → F_X9_readPiece_93 l G (d + 11) te (nI kd) (nI c1) (nI c2) σ4 mc ms K := by
          intro c1 c2 ec1 ec2
          subst ec1 ec2
          have hb := pL_bd kd
          have hlo : pLo kd ≤ 2 := by unfold pLo; split <;> omega
          simp only [F_X9_readPiece_93]
          refine s_X9_readPair (d := d + 6) g4 (by omega) (by omega) (by omega) rk (fun f p hf σ5 k5 f5 => ⟨fun hc => (by cases hc), fun _ => hF f p hf σ5 (hC.s9 (k04.tr k5)) f5⟩) fun r6 x1 x2 e3 y1 y2 σ5 k5 g5 => ⟨fun _ => ?_, fun hc => by cases hc⟩
          simp only [g5.n0]
          refine s_adv (d := d + 8) g5 (by omega) fun σ6 k6 g6 => ?_
          have k06 := (k04.tr k5).tr k6
          exact fin (hC.s9 k06) g6 (hT.k9 k06 (S9.t h)) r6
        refine ⟨fun e2 => ?_, fun e2 => ?_⟩
        · simp only [F_X9_readPiece_82]
          rw [show (2 : Int32) = nI 2 from rfl, nt_eq (by omega) (by decide)]
          have e1 : kd = 1 := by omega
          exact ⟨fun _ => f93 1 4 (by unfold pLo; rw [if_pos e1]) (by unfold pHi; rw [if_pos e1]), fun hc => absurd hc e2⟩
        · simp only [F_X9_readPiece_82]
          rw [show (2 : Int32) = nI 2 from rfl, nt_eq (by omega) (by decide)]
          exact ⟨fun hc => absurd e2 hc, fun _ => f93 2 3 (by unfold pLo; rw [if_neg (by omega)]) (by unfold pHi; rw [if_neg (by omega)])⟩
    simp only [g2.n0]
    by_cases c0 : isW B N (nx B N (nx B N a)) kwCo = true
    · rw [if_pos c0] at r
      rw [if_pos c0]
      exact gk 0 (by decide) (isW_1 c0) r
    · rw [if_neg c0] at r
      rw [if_neg c0]
      by_cases c1 : isW B N (nx B N (nx B N a)) kwBl = true
      · rw [if_pos c1] at r
        rw [if_pos c1]
        exact gk 1 (by decide) (isW_1 c1) r
      · rw [if_neg c1] at r
        rw [if_neg c1]
        by_cases c2 : isW B N (nx B N (nx B N a)) kwCr = true
        · rw [if_pos c2] at r
          rw [if_pos c2]
          exact gk 2 (by decide) (isW_1 c2) r
        · rw [if_neg c2] at r
          rw [if_neg c2]
          exact ⟨fun hc => absurd rfl hc, fun _ => s_X9_fail (d := d + 10) (f := 1) g2 fun σ3 k3 f3 => hF 1 _ r σ3 (hC.s9 (k02.tr k3)) f3⟩
  rw [show (4 : Int32) = nI 4 from rfl, nt_le (by decide) (by omega)]
  exact ⟨fun e => f20 false (by rw [decide_eq_false]; omega), fun e => f20 true (by rw [decide_eq_true]; omega)⟩
end LIN
