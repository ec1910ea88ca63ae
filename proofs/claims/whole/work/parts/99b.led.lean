/-! the law's led: what it answers (the class's led may throw) -/
abbrev NSE : String := "java/util/NoSuchElementException"
def hTb (hh : List (Nat × Nat × Nat × Nat)) (below : List Frame) (args : Array Value) (s : State) : Prop := ∀ (m : MethodId) (meth : Method) (c : Code), s.frames = .invoking m args :: below → s.vm.method? m = some meth → meth.code = some c → c.exceptionTable.toList = tableOf hh
theorem hTb_of {hh : List (Nat × Nat × Nat × Nat)} {below : List Frame} {args : Array Value} {s : State} {m : MethodId} {meth : Method} {c : Code} (f1 : s.frames = .invoking m args :: below) (f2 : s.vm.method? m = some meth) (f3 : meth.code = some c) (h : c.exceptionTable.toList = tableOf hh) : hTb hh below args s := by
  intro m' meth' c' g1 g2 g3
  have e1 := (List.cons.inj (g1.symm.trans f1)).1
  injection e1 with e2 _
  subst e2
  cases Option.some.inj (g2.symm.trans f2)
  cases Option.some.inj (g3.symm.trans f3)
  exact h
def XCz (G : GG) (σ : Hp) (P : Prop) : String → State → State → Prop := fun E st t => E = NSE ∧ P ∧ Rep G σ t.heap ∧ va_F (Af G) st t
def xX (Q : Option AV → Hp → Prop) (σ : Hp) (P : Prop) : Xit := fun G below args s mc ms t => hTb [] below args s → vx_MQ below (Qcz G Q) (XCz G σ P) args s mc ms (Af G) t
def xY (Q : Option AV → Hp → Prop) (hh : List (Nat × Nat × Nat × Nat)) : Xit := fun G below args s mc ms t => hTb hh below args s → MQ below (Qcz G Q) args s mc ms (Af G) t
theorem led_good : ∀ w ∈ Cond.classLink "CoinsLaid" 308 NSE :: Cond.initialized NSE :: ledA, vx_ot w = true := by decide +kernel
theorem led_in : ∀ w ∈ ledA.filter goodWord, w ∈ lw_tbl := by decide +kernel
theorem led_cast : Cond.castable NSE NSE ∈ ledW := by decide +kernel
section LEDX
variable {l : Launch} {G : GG} {d : Nat} {own : String} {yy : MethodName} {cc : ByteArray} {nL : Nat} {ret : Option FieldType} {pc : Nat} {L : List (Nat × AV)} {st : List AV} {σ : Hp} {bc bs : Nat} {Q : Option AV → Hp → Prop}
theorem Wd.toX {σ0 : Hp} {P : Prop} (k : Wd l G d own yy cc nL ret pc L st σ bc bs (xM Q)) : Wd l G d own yy cc nL ret pc L st σ bc bs (xX Q σ0 P) := by
  intro p e R s m args below meth c ls H locs cells slots mc ms r1 r2 r3 r4 C hl hR hS h1 h2 T hT X
  obtain ⟨t, a1, b1⟩ := vx_ret (XC := XCz G σ0 P) (k p e R s m args below meth c ls H locs cells slots mc ms r1 r2 r3 r4 C hl hR hS h1 h2) T hT X
  exact ⟨t, a1, fun _ => b1⟩
theorem Wd.toY {hh : List (Nat × Nat × Nat × Nat)} (k : Wd l G d own yy cc nL ret pc L st σ bc bs (xM Q)) : Wd l G d own yy cc nL ret pc L st σ bc bs (xY Q hh) := by
  intro p e R s m args below meth c ls H locs cells slots mc ms r1 r2 r3 r4 C hl hR hS h1 h2 T hT X
  obtain ⟨t, a1, b1⟩ := k p e R s m args below meth c ls H locs cells slots mc ms r1 r2 r3 r4 C hl hR hS h1 h2 T hT X
  exact ⟨t, a1, fun _ => b1⟩
theorem r_thrown {P : Prop} (hl : l.stackTraces = false) (hP : P) (hd6 : 6 ≤ d) (hbc : 1 ≤ bc) (hbs : 6 ≤ bs) : Wd l G d "CoinsLaid" yX11_led cX11_led 3 (some .int) 13 L [] σ bc bs (xX Q σ P) := by
  intro p e R s m args below meth c ls H locs cells slots mc ms r1 r2 r3 r4 C hlv hR hS h1 h2 T hT X
  by_cases ht : hTb [] below args s
  · have hte : c.exceptionTable.toList = [] := ht m meth c X.frames X.method X.code
    have x13 := C.xtr.2.2.2.2.2.2.2.2.2.2
    have hat : ∀ w ∈ vx_at0 "CoinsLaid" 310 NSE ["java/lang/RuntimeException", "java/lang/Exception"], w.before args s = true := vx_hat (L := ledA) (B := ledW) (fun w hw => C.2.2.2.2.1 _ (List.mem_cons_of_mem _ (gtbl_of (led_in w hw) (List.mem_filter.mp hw).2))) (fun w hw => hw) (fun w hw => va_Nw.use (A := args) (Bool.and_eq_true _ _ ▸ List.all_eq_true.mp ledW_ok w hw).1 (x13.2.2 w hw))
    obtain ⟨t, a1, b1⟩ := vx_throw0 (cc := cX11_led) (pc := 13) (rest := []) (mc := mc) (ms := ms) (A := Af G) (own := "CoinsLaid") (cls := NSE) (names := ["java/lang/RuntimeException", "java/lang/Exception"]) (ik := 308) (ic := 310) (XC := XCz G σ P) (Qc := Qcz G Q) (free := Af G) C.1 C.2.1 hl C.2.2.2.1 (by decide) (by decide) (C.2.2.2.2.1 _ (List.mem_cons_of_mem _ wd_6_118)) (C.2.2.2.2.1 _ (List.mem_cons_of_mem _ wd_1_30)) hat led_good x13.1 x13.2.1 hS (hlv.1.trans C.2.2.1.symm) dX11_led_13 dX11_led_16 dX11_led_17 dX11_led_20 (fun x hx => by rw [hte] at hx; cases hx) (by show 2 + 3 < R.frames; omega) (by show 0 + (13 * (2 + 1) + 42) ≤ R.locals; omega) (by omega) (by omega) C.2.2.2.2.2.2.1 (fun t hal hz hq => ⟨rfl, hP, fun a c' h' => (hR a c' h').kept (hq a (hR a c' h').lt), Nat.le_trans hS.1 hz, fun q hq1 hq2 => (hq q (Nat.lt_of_lt_of_le hq1 hS.1)).trans (hS.2.1 q hq1 hq2)⟩) hS.2.2 (by omega) (by omega) T hT X
    exact ⟨t, a1, fun _ => b1⟩
  · exact ⟨_, Steps.refl _, fun h => absurd h ht⟩
abbrev C_X11_ledX (l : Launch) (G : GG) (d : Nat) (a : Nat) (v : Int32) (σ : Hp) (K : Int32 → Hp → Prop) (P : Prop) : Prop := vx_Met l yX11_led (Cond.code yX11_led cX11_led 3 (some .int) :: gtbl) (rmz d 1 6) (Pcz G [aR (some a), aI v] σ) (Qcz G (QI K)) (XCz G σ P) 1 6 (Af G)
theorem m_X11_ledX (hl : l.stackTraces = false) {K : Int32 → Hp → Prop} {P : Prop} {a b : Nat} {v : Int32} {fs : List AV} (ha : σ a = some (.inl (11, fs))) (hv : fs[7]? = some (aR (some b))) (hat : C_X1_at l G d b v σ fun r σ' => (∀ x, r = some x → ∃ gs n, σ' x = some (.inl (2, gs)) ∧ gs[0]? = some (aI n) ∧ K n σ') ∧ (r = none → P ∧ σ' = σ)) (hd : 5 ≤ d) : C_X11_ledX l G (d + 1) a v σ K P := by
  refine vx_ofW (cc := cX11_led) (maxL := 3) (ret := some .int) (by decide) rfl ?_
  intro p e s m args below meth c s₁ B hml hte hv0
  obtain ⟨rfl, hR, hW⟩ := hv0
  have hts := atoms_spec B.pre
  rw [lg_entry_eq]
  have hlv := lv_entry ([aR (some a), aI v].map av) (n := 3) (Nat.le_of_ble_eq_true rfl)
  rw [← az_args_map] at hlv
  have k : Wd l G (d + 1) "CoinsLaid" yX11_led cX11_led 3 (some .int) 0 [(0, aR (some a)), (1, aI v)] [] σ 1 6 (xX (QI K) σ P) := by
    refine r_aload_n (j := 0) rfl rfl dX11_led_0 ?_
    refine r_get (Cn := RX11) (Tt := TX11) (N := 12) (n := 7) rfl uw_X11 (Nat.le_of_ble_eq_true rfl) wd_1_180 ha hv dX11_led_1 ?_
    refine r_iload_n (j := 1) rfl rfl dX11_led_4 ?_
    obtain ⟨⟨fs_r, ha_r⟩, hat⟩ := hat
    refine r_invVR (t := 1) (As := [aI v]) (dz := d) (mz := 0) (sz := 0) rfl wd_6_117 wd_5_231 wd_5_232 cf_X1_at (Nat.le_refl _) (Nat.zero_le _) (Nat.zero_le _) (cat_ok (Nat.le_of_ble_eq_true rfl)) rfl rfl ha_r dX11_led_5 hat (fun r σ2 hk => ?_)
    refine r_astore_n (i := 2) rfl rfl (by decide) dX11_led_8 ?_
    refine r_aload_n (j := 0) rfl rfl dX11_led_9 ?_
    refine r_ifnonnull (o := r) (tgt := 21) (by decide) dX11_led_10 (fun x hx => ?_) (fun hx => ?_)
    · obtain ⟨gs, n, g1, g2, g3⟩ := hk.1 x hx
      subst hx
      refine Wd.toX ?_
      refine r_aload_n (j := 0) rfl rfl dX11_led_21 ?_
      refine r_get (Cn := RX2) (Tt := TX2) (N := 9) (n := 0) rfl uw_X2 (Nat.le_of_ble_eq_true rfl) wd_4_20 g1 g2 dX11_led_22 ?_
      exact r_ireturn rfl dX11_led_25 rfl ⟨_, rfl, g3⟩
    · obtain ⟨hP, hs⟩ := hk.2 hx
      rw [hs]
      exact r_thrown hl hP (by omega) (Nat.le_refl _) (Nat.le_refl _)
  intro T hT X
  obtain ⟨t, a1, b1⟩ := k p e (rmz (d + 1) 1 6) s m _ below meth c _ s.heap [] 0 0 1 6 (Nat.le_refl _) (Nat.le_refl _) (Nat.le_refl _) (Nat.le_refl _) ⟨B.exec, B.bytes, hml, findClass_of_methodNamed B.named, (fun w hw => (List.mem_cons.mp hw).elim (fun e => hts w (List.mem_cons_of_mem _ (e ▸ cx0_in))) (fun h => hts w (List.mem_cons_of_mem _ h))), B.returns, B.notSynchronized, hW, (name_of_methodNamed B.named B.method).1⟩ hlv hR va_S.rf (by omega) (by omega) T hT X
  exact ⟨t, a1, b1 (hTb_of X.frames X.method X.code (List.eq_nil_iff_forall_not_mem.mpr fun x hx => hte x hx))⟩
theorem r_vled {dz : Nat} {a : Nat} {v : Int32} {fs : List AV} {K : Int32 → Hp → Prop} {P : Prop} (ha : σ a = some (.inl (11, fs))) (hdz : dz + 1 ≤ d) (hbc : 1 ≤ bc) (hbs : 6 ≤ bs) (hst : (st.map fun v => (av v).category).sum ≤ 8) (h : C_X11_ledX l G dz a v σ K P)
    (kt : ∀ n σ', K n σ' → Wd l G d "CoinsLaidLaw" yL_led cL_led 4 (some .int) 7 L (aI n :: st) σ' (bc - 1) (bs - 6) (xY Q [(0, 9, 12, 13)])) (kx : P → ∀ q, Wd l G d "CoinsLaidLaw" yL_led cL_led 4 (some .int) 12 L [aR (some q)] σ (bc - 1) (bs - 6) (xY Q [(0, 9, 12, 13)])) : Wd l G d "CoinsLaidLaw" yL_led cL_led 4 (some .int) 4 L (aI v :: aR (some a) :: st) σ bc bs (xY Q [(0, 9, 12, 13)]) := by
  intro p e R s m args below meth c ls H locs cells slots mc ms r1 r2 r3 r4 C hl hR hS h1 h2
  obtain ⟨-, r0, g1, g2, cellB, v1, v2, v3, -⟩ := hR a _ ha
  cases g1
  have hcls := (C.2.2.2.2.2.2.2.1.1.1 11 _ rfl).2
  have cf := cf_X11_led
  have hr : vx_Run p l e R s m args below meth c H locs cells slots 1 6 (F0 m 4 ls ((aI v :: aR (some a) :: st).map av)) (st.map av) _ (XCz G σ P) (Af G) := vx_runV (C := "CoinsLaid") (As := [aI v].map av) (b := a) (own := "CoinsLaidLaw") (index := 7) (bytes := cX11_led) (maxL := 3) (nL := 4) (n := 1) (Ts := cx0 :: gtbl) ⟨C.1, C.2.1, C.2.2.1, C.2.2.2.1, C.2.2.2.2.1⟩ h ⟨⟨rfl, rfl, Nat.le_trans hdz r1, by show 8 + (3 + 11) + 40 * dz ≤ R.locals; omega, pay_in C.2.2.2.2.1 cf.good, List.mem_cons_self, C.2.2.2.2.1 _ (List.mem_cons_of_mem _ cf.1), C.2.2.2.2.1 _ (List.mem_cons_of_mem _ cf.2.1), cf.2.2.1, fun sig h9 => cf.len h9, C.2.2.2.2.1 _ (List.mem_cons_of_mem _ wd_6_113)⟩, C.2.2.2.2.1 _ (List.mem_cons_of_mem _ wd_6_114), C.2.2.2.2.1 _ (List.mem_cons_of_mem _ wd_6_115)⟩
    ⟨fun a U g mk q => ⟨q.1, q.2.1, Wld.same (u := U) (U := U.calling g mk a) rfl rfl q.2.2⟩, ⟨cellB, v1, by rw [v3]; rfl, by rw [v2]; exact hcls.1⟩, fun U hU hW => ⟨rfl, by rw [hU]; exact hR, C.2.2.2.2.2.2.2.1.go hW (by rw [hU]; exact hS.1) (fun q hq1 hq2 => by rw [hU]; exact hS.2.1 q hq1 hq2)⟩⟩ rfl rfl hl.1 rfl (by rw [List.map_map]; show 2 * 0 + (st.map fun v => (av v).category).sum ≤ 8; omega) dL_led_4 ⟨by omega, by omega⟩
  intro T hT X
  by_cases ht : hTb [(0, 9, 12, 13)] below args s
  · rcases hr T hT X with ⟨v0, st₀, t, T', L9, g0, X', hL9, e1, e2, ⟨r, σ', hv, hR', ⟨n, rfl, hq⟩, hF⟩, stp⟩ | ⟨q, st₀, t, T', L9, E, ce, g0, X', hL9, e1, e2, ⟨rfl, hP, hR', hF⟩, hce, hcv, hcl, stp⟩
    · cases hv
      have hF' : va_F (Af G) st₀ t := hF
      unfold va_F at hF'
      rw [g0] at hF'
      have hk := kt n σ' hq p e R s m args below meth c ls T'.heap (locs ++ L9) (cells + 1) (slots + 6) mc ms r1 r2 r3 r4 C hl (by rw [e1]; exact hR') ⟨Nat.le_trans hS.1 (by rw [e1]; exact hF'.1), fun q hq1 hq2 => by rw [e1, hF'.2 q (Nat.lt_of_lt_of_le hq1 hS.1) hq2]; exact hS.2.1 q hq1 hq2, fun q hq => by
        rcases List.mem_append.mp hq with h | h
        · exact hS.2.2 q h
        · exact hL9 q h⟩ (by omega) (by omega)
      obtain ⟨t2, a1, b1⟩ := hk T' rfl X'
      exact ⟨t2, stp t2 a1, b1⟩
    · have hF' : va_F (Af G) st₀ t := hF
      unfold va_F at hF'
      rw [g0] at hF'
      have hk := kx hP q p e R s m args below meth c ls T'.heap (locs ++ L9) (cells + 1) (slots + 6) mc ms r1 r2 r3 r4 C hl (by rw [e1]; exact hR') ⟨Nat.le_trans hS.1 (by rw [e1]; exact hF'.1), fun q hq1 hq2 => by rw [e1, hF'.2 q (Nat.lt_of_lt_of_le hq1 hS.1) hq2]; exact hS.2.1 q hq1 hq2, fun q hq => by
        rcases List.mem_append.mp hq with h | h
        · exact hS.2.2 q h
        · exact hL9 q h⟩ (by omega) (by omega)
      have hx := vx_catch (own := "CoinsLaidLaw") (name := NSE) (pc := 4) (rest := st.map av) C.2.2.2.1 [] ⟨0, 9, 12, 13⟩ [] (ht m meth c X.frames X.method X.code) (fun z hz => nomatch hz) rfl (by decide) (C.2.2.2.2.1 _ (List.mem_cons_of_mem _ wd_6_112)) (va_Nw.use (A := args) rfl (C.xtr.2.2.2.2.2.2.2.2.2.2.2.2 _ led_cast)) (by rw [e1]; exact hce) hcv hcl hk
      obtain ⟨t2, a1, b1⟩ := hx T' rfl X'
      exact ⟨t2, stp.trans a1, b1⟩
  · exact ⟨_, Steps.refl _, fun h => absurd h ht⟩
end LEDX
section LED
variable {l : Launch} {G : GG} {d : Nat} {Z : ST} {N : Nat} {Mo : Nat → Prop} {P : Nat → Nat} {τ : Hp} {C : Nat → CE}
theorem p_X11_ledX (hl : l.stackTraces = false) (hZ : VZ Z) (hC : CI Z N Mo P τ C) {v : Int32} : C_X11_ledX l G (d + 10) (P 0) v (ch 75 P C τ) (fun n σ' => σ' = ch 75 P C τ ∧ ∃ k, q_led Z v = some k ∧ n = nI k) (q_led Z v = none) := by
  obtain ⟨Q, X, h⟩ := hC
  obtain ⟨fp, hc0, -⟩ := h.2.2.1
  refine m_X11_ledX (d := d + 9) (fs := _) (b := P 12) hl ((ch_a h.1 (by decide)).trans (congrArg some hc0)) rfl ?_ (by omega)
  refine s_X1_at (d := d + 8) h.1 (by decide) h.2.2.2.1.2.1 ⟨fun x hx => ?_, fun hx => ⟨?_, rfl⟩⟩
  · cases hq : atR (zW Z).1 v with
    | none => rw [hq] at hx; cases hx
    | some n =>
      rw [hq] at hx
      cases hx
      obtain ⟨j, hj1, hj2⟩ := Option.bind_eq_some_iff.mp hq
      cases hT : zT Z with
      | none =>
        have h9 := hZ.2.2.2.2.2.2.2
        rw [hT] at h9
        rw [h9.1] at hj2
        cases hj2
      | some T =>
        obtain ⟨hW, hV, hG, htk, hwho, hsd⟩ := hZ.so hT
        obtain ⟨hS, hO, hr⟩ := h.so hT hW
        obtain ⟨e, he, -⟩ := hG j n hj2
        obtain ⟨g, -, -, g3⟩ := (hS.hX C).lay he
        exact ⟨_, nI n, g3, rfl, rfl, n, hq, rfl⟩
  · cases hq : atR (zW Z).1 v with
    | none => exact hq
    | some n => rw [hq] at hx; cases hx
theorem p_L_led (hl : l.stackTraces = false) (hZ : VZ Z) (hC : CI Z N Mo P τ C) {v : Int32} {out : Nat} {f : Nat → Int64} (hout : ch 75 P C τ out = some (jA 1 f)) {K : Int32 → Hp → Prop} (hK0 : q_led Z v = none → K 1 (ch 75 P C τ)) (hK1 : ∀ n, q_led Z v = some n → K 0 (hset (ch 75 P C τ) out (jA 1 (up_ f 0 (nI n).toInt64)))) : C_L_led l G (d + 30) (P 0) v out (ch 75 P C τ) K := by
  have hx := p_X11_ledX (l := l) (G := G) (d := d + 19) hl hZ hC (v := v)
  obtain ⟨Q, X, h⟩ := hC
  obtain ⟨fp, hc0, -⟩ := h.2.2.1
  have ha := (ch_a (C := C) (τ := τ) h.1 (show 0 < 75 by decide)).trans (congrArg some hc0)
  have k : Wd l G (d + 30) "CoinsLaidLaw" yL_led cL_led 4 (some .int) 0 [(0, aR (some (P 0))), (1, aI v), (2, aR (some out))] [] (ch 75 P C τ) 1 6 (xY (QI K) [(0, 9, 12, 13)]) := by
    refine r_aload_n (j := 2) rfl rfl dL_led_0 ?_
    refine r_iconst (v := 0) (by decide) dL_led_1 ?_
    refine r_aload_n (j := 0) rfl rfl dL_led_2 ?_
    refine r_iload_n (j := 1) rfl rfl dL_led_3 ?_
    refine r_vled (dz := d + 29) ha (Nat.le_refl _) (Nat.le_refl _) (Nat.le_refl _) (cat_ok (Nat.le_of_ble_eq_true rfl)) hx (fun n σ' hk => ?_) (fun hP q => ?_)
    · obtain ⟨rfl, n, hq, rfl⟩ := hk
      refine Wd.toY ?_
      refine r_i2l dL_led_7 ?_
      refine r_last (N := 1) (f := f) hout (by unfold vp_in; decide) dL_led_8 ?_
      refine r_goto (tgt := 15) (by decide) dL_led_9 ?_
      refine r_iconst (v := 0) (by decide) dL_led_15 ?_
      exact r_ireturn rfl dL_led_16 rfl ⟨_, rfl, hK1 n hq⟩
    · refine Wd.toY ?_
      refine r_astore_n (i := 3) rfl rfl (by decide) dL_led_12 ?_
      refine r_iconst (v := 1) (by decide) dL_led_13 ?_
      exact r_ireturn rfl dL_led_14 rfl ⟨_, rfl, hK0 hP⟩
  unfold C_L_led SpW
  refine MetFree.of_bodyS (code := cL_led) (maxLocals := 4) (ret := some .int) (by decide) ?_ ?_
  · intro args s m h hn
    obtain ⟨m9, meth, c, hn9, h1, h2, h3, h4, -, h5, h6, -⟩ := Cond.codeWith_spec (atoms_spec h _ List.mem_cons_self)
    cases hn.symm.trans hn9
    exact ⟨meth, c, h1, h2, h3, h4, h5, h6⟩
  · intro p e s m args below meth c s₁ B hml hP _
    have hh0 : s₁.heap = s.heap := by rw [B.state]; rfl
    have hts := atoms_spec B.pre
    have htab := vx_table (x := yL_led) B (hts _ List.mem_cons_self)
    obtain ⟨rfl, hR, hW⟩ := hP
    have X0 := Stand.of_body B
    have hlv := lv_entry ([aR (some (P 0)), aI v, aR (some out)].map av) (n := 4) (Nat.le_of_ble_eq_true rfl)
    rw [← az_args_map] at hlv
    have k2 := k p e (rmz (d + 30) 1 6) s m _ below meth c _ s.heap [] 0 0 1 6 (Nat.le_refl _) (Nat.le_refl _) (Nat.le_refl _) (Nat.le_refl _) ⟨B.exec, B.bytes, hml, findClass_of_methodNamed B.named, (fun w hw => (List.mem_cons.mp hw).elim (fun e => hts w (List.mem_cons_of_mem _ (e ▸ cx0_in))) (fun h => hts w (List.mem_cons_of_mem _ h))), B.returns, B.notSynchronized, hW, (name_of_methodNamed B.named B.method).1⟩ hlv hR va_S.rf (by omega) (by omega)
    rw [lg_entry_eq]
    obtain ⟨t, a1, b1⟩ := k2 s₁ hh0 X0
    obtain ⟨o, b2, b3, b4, b5⟩ := b1 (hTb_of X0.frames X0.method X0.code htab)
    exact ⟨t, o, a1, b2, b3, b4, b5⟩
end LED
