/-! THE LAW: its words, its exit, its call of led -/
def R_law : String := "CoinsLaidLaw"
def lw_P (b : Addr) (xs : List Int32) (args : Array Value) (s : State) : Prop := args = #[.ref b] ∧ s.IntsAt b xs ∧ xs.length ≤ 3072 ∧ (Jvm.Cond.and given_1 narrow_1).before args s = true
def lw_Q (_ : Array Value) (s : State) (o : Outcome) (t : State) : Prop := o = .returned (some (.int 1)) ∧ Framed s o t [] 601024 7293034
def lw_Z (below : List Frame) (a : Array Value) (s : State) : State → Prop := fun t => ∃ o, t.status = .running ∧ Ended t below o ∧ lw_Q a s o t
/-- the law's own end, with 1 on the stack, nothing written that was there before, its room as the claim has it -/
theorem lw_ret {p : Program} {l : Launch} {e : Env} {s : State} {m : MethodId} {below : List Frame} {meth : Method} {c : Code} {b : Nat} (hx : p.tables.exec = Jvm.exec) (hb : c.code = code) (hr : meth.sig.returnType = ret) (hlocks : meth.locks = false) {pc : Nat} {H : Heap} {ls : Array Slot} (hdg : decode code pc = .ok (.ireturn, 1)) : W p l e room_1 s m #[Value.ref b] below meth c H [] 601024 7293034 (lw_Z below #[Value.ref b] s) (F0 m pc ls [.int 1]) := by
  intro T hT X
  obtain ⟨fs, hret, hrun, hended, hW, hframe⟩ := X.leave (v := some (.int 1)) (hlocks := hlocks) (fun h => by rw [hr] at h; cases h)
  have hmeth' : T.vm.method? m = some meth := X.method'
  refine ⟨T.setFrames fs, ?_, .returned (some (.int 1)), hrun, hended, rfl, ⟨_, rfl⟩, hW, hframe⟩
  jvm_step X.here [X.here.top, hx, hb, hdg, hmeth', hr, ret, narrow_b1]
  (try refine ⟨rfl, ?_⟩); (try refine ⟨rfl, ?_⟩)
  first | (intro acts; rw [hret _ acts rfl rfl rfl]) | rw [hret _ _ rfl rfl rfl]
  exact Steps.refl _
/-- what holds at the law's entry: the machine, the code, the tables' words (any of lw_tbl by 'hts w (by decide +kernel)'), the script of L ints xs at the cell b, what the Statement gives of the start (any of its parts by flat_of_before) -/
def lw_At (p : Program) (s : State) (m : MethodId) (meth : Method) (c : Code) (b L : Nat) (xs : Nat → Int32) : Prop :=
  p.tables.exec = Jvm.exec ∧ c.code = code ∧ meth.sig.returnType = ret ∧ c.maxLocals = 7 ∧ s.vm.findClass R_law = some m.cls ∧ (∀ w ∈ lw_tbl, w.before #[Value.ref b] s = true) ∧ va_X b L xs s s.heap ∧ b < s.heap.size ∧ meth.locks = false ∧ (Jvm.Cond.and given_1 narrow_1).before #[Value.ref b] s = true
theorem lw_retG {p : Program} {l : Launch} {e : Env} {R : Room} {s : State} {m : MethodId} {below : List Frame} {meth : Method} {c : Code} {b : Nat} (hx : p.tables.exec = Jvm.exec) (hb : c.code = code) (hr : meth.sig.returnType = ret) (hlocks : meth.locks = false) {pc : Nat} {H : Heap} {ls : Array Slot} (hdg : decode code pc = .ok (.ireturn, 1)) : W p l e R s m #[Value.ref b] below meth c H [] 601024 7293034 (lw_Z below #[Value.ref b] s) (F0 m pc ls [.int 1]) := by
  intro T hT X
  obtain ⟨fs, hret, hrun, hended, hW, hframe⟩ := X.leave (v := some (.int 1)) (hlocks := hlocks) (fun h => by rw [hr] at h; cases h)
  have hmeth' : T.vm.method? m = some meth := X.method'
  refine ⟨T.setFrames fs, ?_, .returned (some (.int 1)), hrun, hended, rfl, ⟨_, rfl⟩, hW, hframe⟩
  jvm_step X.here [X.here.top, hx, hb, hdg, hmeth', hr, ret, narrow_b1]
  (try refine ⟨rfl, ?_⟩); (try refine ⟨rfl, ?_⟩)
  first | (intro acts; rw [hret _ acts rfl rfl rfl]) | rw [hret _ _ rfl rfl rfl]
  exact Steps.refl _

def sA (N : Nat) (f : Nat → Int32) : CE := .inr (7, N, fun j => aI (f j))
def gScr (σ : Hp) (a : Nat) (i : Int32) (K : Int32 → Prop) : Prop := ∃ N f, σ a = some (sA N f) ∧ vp_in i N ∧ K (f i.toNatClampNeg)
def xL (K : Bool → Hp → Prop) : Xit := fun G below args s mc ms t => ((∀ b σ, K b σ → b = true) ∧ gH G = s.heap ∧ mc = 601024 ∧ ms = 7293034) → ∀ b, args = #[Value.ref b] → lw_Z below args s t
theorem r_lawret {l : Launch} {G : GG} {d : Nat} {own : String} {yy : MethodName} {nL : Nat} {pc : Nat} {L : List (Nat × AV)} {σ : Hp} {bc bs : Nat} {K : Bool → Hp → Prop} {b : Bool} (hd : decode code pc = .ok (.ireturn, 1)) (hf : K b σ) : Wd l G d own yy code nL (some .boolean) pc L [aI (bi b)] σ bc bs (xL K) := by
  intro p e R s m args below meth c ls H locs cells slots mc ms r1 r2 r3 r4 C hl hR hS h1 h2
  by_cases hc : ((∀ b σ, K b σ → b = true) ∧ gH G = s.heap ∧ mc = 601024 ∧ ms = 7293034) ∧ ∃ b, args = #[Value.ref b]
  · obtain ⟨⟨hK, hG, rfl, rfl⟩, b0, rfl⟩ := hc
    have hb : b = true := hK b σ hf
    subst hb
    have k := lw_retG (R := R) (e := e) (l := l) (p := p) (s := s) (m := m) (below := below) (meth := meth) (c := c) (b := b0) (H := H) (ls := ls) C.1 C.2.1 C.2.2.2.2.2.1 C.2.2.2.2.2.2.1 hd
    have k2 := va_forget (locs := locs) (cells := 601024) (slots := 7293034) (fun q hq => by have h9 := hS.2.2 q hq; unfold Af at h9; rw [hG] at h9; exact h9) k
    have k3 := W.widen (cells := cells) (slots := slots) (k := 601024) (n := 7293034) (by omega) (by omega) k2
    intro T hT X
    obtain ⟨t, a1, b1⟩ := k3 T hT X
    exact ⟨t, a1, fun _ b _ => b1⟩
  · intro T hT X
    exact ⟨_, Steps.refl _, fun h b hb => absurd ⟨h, b, hb⟩ hc⟩
def SpW (l : Launch) (G : GG) (d : Nat) (y : MethodName) (cc : ByteArray) (nL : Nat) (ret : Option FieldType) (hh : List (Nat × Nat × Nat × Nat)) (mc ms : Nat) (as : List AV) (σ : Hp) (Q : Option AV → Hp → Prop) : Prop :=
  Met l y (Cond.codeWith y cc nL ret hh :: gtbl) (rmz d mc ms) (Pcz G as σ) (Qcz G Q) mc ms (Af G)
def C_L_led (l : Launch) (G : GG) (d : Nat) (x : Nat) (p0 : Int32) (out : Nat) (σ : Hp) (K : Int32 → Hp → Prop) : Prop := SpW l G d yL_led cL_led 4 (some .int) [(0, 9, 12, 13)] 1 6 [aR (some x), aI p0, aR (some out)] σ (QI K)
theorem r_led {l : Launch} {G : GG} {d : Nat} {own : String} {yy : MethodName} {cc : ByteArray} {nL : Nat} {ret : Option FieldType} {pc : Nat} {L : List (Nat × AV)} {σ : Hp} {bc bs : Nat} {E : Xit} {i dz : Nat} {x out : Nat} {p0 : Int32} {K : Int32 → Hp → Prop} (wl : Cond.methodLink own i yL_led ∈ gtbl) (hdz : dz + 1 ≤ d) (hbc : 1 ≤ bc) (hbs : 6 ≤ bs) (hd : decode cc pc = .ok (.invokestatic i, 3)) (h : C_L_led l G dz x p0 out σ K) (k : ∀ v σ', K v σ' → Wd l G d own yy cc nL ret (pc + 3) L (aI v :: []) σ' (bc - 1) (bs - 6) E) : Wd l G d own yy cc nL ret pc L [aR (some out), aI p0, aR (some x)] σ bc bs E := by
  intro p e R s m args below meth c ls H locs cells slots mc ms r1 r2 r3 r4 C hl hR hS h1 h2
  have w1 : Cond.codeWith yL_led cL_led 4 (some .int) [(0, 9, 12, 13)] ∈ gtbl := wd_6_111
  have w2 : Cond.static yL_led ∈ gtbl := wd_6_110
  have w3 : Cond.initialized yL_led.cls ∈ gtbl := wd_1_0
  have hG : GoodIn (cx0 :: gtbl) (va_wsS own i yL_led (Cond.codeWith yL_led cL_led 4 (some .int) [(0, 9, 12, 13)] :: gtbl)) := by
    intro w hw
    unfold va_wsS at hw
    have hin : w ∈ gtbl := by
      simp only [List.cons_append, List.nil_append, List.mem_cons] at hw
      rcases hw with rfl | rfl | rfl | rfl | hw
      · exact wl
      · exact w2
      · exact w3
      · exact w1
      · exact hw
    exact ⟨List.mem_cons_of_mem _ hin, gtbl_good hin⟩
  have hr : va_Run p l e R s m args below meth c H locs cells slots 1 6 (F0 m pc ls ([aR (some out), aI p0, aR (some x)].map av)) (([] : List AV).map av) _ (Af G) := vx_runSW (As := [aR (some x), aI p0, aR (some out)].map av) (nL := nL) (Ts := cx0 :: gtbl) (own := own) (index := i) (bytes := cL_led) (maxL := 4) (ret := some .int) (hh := [(0, 9, 12, 13)]) (n := 3) ⟨C.1, C.2.1, C.2.2.1, C.2.2.2.1, C.2.2.2.2.1⟩ h (vx_cwSW 3 C.2.2.2.2.1 hG rfl rfl rfl ⟨by decide, by decide, by decide +kernel⟩ ⟨Nat.le_trans hdz r1, by show 8 + (4 + 11) + 40 * dz ≤ R.locals; omega⟩)
    ⟨fun a U g mk q => ⟨q.1, q.2.1, Wld.same (u := U) (U := U.calling g mk a) rfl rfl q.2.2⟩, fun U hU hW => ⟨rfl, by rw [hU]; exact hR, C.2.2.2.2.2.2.2.1.go hW (by rw [hU]; exact hS.1) (fun q hq1 hq2 => by rw [hU]; exact hS.2.1 q hq1 hq2)⟩⟩ rfl rfl hl.1 rfl (Nat.le_of_ble_eq_true rfl) hd ⟨by omega, by omega⟩
  intro T hT X
  obtain ⟨v, st₀, t, T', L9, g0, X', hL9, e1, e2, ⟨r, σ', hv, hR', ⟨v0, rfl, hq⟩, hF⟩, stp⟩ := hr T hT X
  cases hv
  have hF' : va_F (Af G) st₀ t := hF
  unfold va_F at hF'
  rw [g0] at hF'
  have hk := k v0 σ' hq p e R s m args below meth c ls T'.heap (locs ++ L9) (cells + 1) (slots + 6) mc ms r1 r2 r3 r4 C hl (by rw [e1]; exact hR') ⟨Nat.le_trans hS.1 (by rw [e1]; exact hF'.1), fun q hq1 hq2 => by rw [e1, hF'.2 q (Nat.lt_of_lt_of_le hq1 hS.1) hq2]; exact hS.2.1 q hq1 hq2, fun q hq => by
    rcases List.mem_append.mp hq with h | h
    · exact hS.2.2 q h
    · exact hL9 q h⟩ (by omega) (by omega)
  obtain ⟨t2, a1, b1⟩ := hk T' rfl X'
  exact ⟨t2, stp t2 a1, b1⟩
