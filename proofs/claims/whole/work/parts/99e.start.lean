/-! THE ENTRY: what the Statement gives of the start -/
def stT (q : String × Nat × String × List Nat) : Term := .string q.1 q.2.1
def stV (q : String × Nat × String × List Nat) : Term := .field (stT q) "java/lang/String" "value" "[B"
def stW (q : String × Nat × String × List Nat) : List Cond := [.exactly (stT q) "java/lang/String", .eq (.field (stT q) "java/lang/String" "code\x72" "B") (.int 0), .arrayOf (stV q) .byte, .eq (.length (stV q)) (.int (Int32.ofNat q.2.2.2.length))] ++ (List.range q.2.2.2.length).map fun j => .eq (.elem (stV q) (.int (Int32.ofNat j))) (.int (Int32.ofNat (q.2.2.2.getD j 0)))
/-- the premises, by their places in the Statement's tree -/
def pk : Nat → Cond → Nat → Cond
  | 0, c, _ => c
  | f + 1, c, n => match c with
    | .and a b => if n % 2 = 0 then pk f a (n / 2) else pk f b (n / 2)
    | c => c
theorem pk_ok {args : Array Value} {s : State} : ∀ (f : Nat) (T : Cond) (n : Nat), T.before args s = true → (pk f T n).before args s = true
  | 0, _, _, h => h
  | f + 1, T, n, h => by
    unfold pk
    split
    · rw [Cond.before_and, Bool.and_eq_true] at h
      split
      · exact pk_ok f _ _ h.1
      · exact pk_ok f _ _ h.2
    · exact h
def TT : Cond := Cond.and given_1 narrow_1
def stN : List (List Nat) := [[457, 969, 41, 297, 809, 169, 425, 937, 105], [361, 873, 233, 745, 489, 1001, 25, 281, 793], [153, 409, 921, 89, 345, 857, 217, 473], [985, 57, 313, 825, 185, 441, 953, 121, 377], [889, 249, 761, 505, 1017, 5, 261, 773, 133], [389, 901, 69, 325, 837, 197, 453, 965, 37], [805, 165, 421, 933, 101, 357, 869, 229, 741], [997, 21, 277, 789, 149, 405, 917], [85, 341, 853, 213, 469, 981, 53, 309, 821], [181, 437, 949, 117, 373, 885, 245], [757, 501, 1013, 13, 269, 781, 141, 397], [909, 77, 333, 845, 205, 461, 973, 45], [301, 813, 173, 429, 941, 109, 365], [237, 749, 493, 1005, 29, 285, 797, 157, 413], [93, 349, 861, 221, 733, 477, 989, 61], [317, 829, 189, 445, 957, 125, 381, 893, 253], [765, 509, 1021, 3, 259, 771, 131, 387, 899, 67], [323, 835, 195, 451, 963, 35, 291, 803, 163], [419, 931, 99, 355, 867, 227, 739, 483, 995], [19, 275, 787, 147, 403, 915, 83, 339, 851, 211], [467, 979, 51, 307, 819, 179, 435], [115, 371, 883, 243, 755, 499, 1011, 11, 267], [395, 907, 75, 331, 843, 203, 459, 971], [299, 811, 171, 427, 939, 107, 363, 875, 235], [491, 1003, 27, 283, 795, 155, 411, 923, 91], [859, 219, 731, 475, 987, 59, 315, 827, 187], [123, 379, 891, 251, 763, 507, 1019], [775, 135, 391, 903, 71, 327, 839, 199, 455], [295, 807, 167, 423, 935, 103, 359], [743, 487, 999, 23, 279, 791, 151, 407], [87, 343, 855, 215, 471, 983, 55, 311], [183, 439, 951, 119, 375, 887, 247, 759], [1015, 15, 271, 783, 143, 399, 911, 79, 335], [207, 463, 975, 47, 303, 815, 175, 431, 943, 111], [879, 239, 751, 495, 1007, 31, 287, 799, 159], [927, 95, 351, 863, 223, 735, 479, 991, 63], [831, 191, 447, 959, 127, 383, 895, 255, 767, 511]]
theorem stW_eq : ssz.map stW = stN.map (fun l => l.map (pk 12 TT)) := by decide +kernel
theorem stW_ok {args : Array Value} {s : State} (hp : ∀ n, (pk 12 TT n).before args s = true) : ∀ q ∈ ssz, ∀ w ∈ stW q, w.before args s = true := fun q hq w hw => by
  have h1 : stW q ∈ ssz.map stW := List.mem_map.mpr ⟨q, hq, rfl⟩
  rw [stW_eq] at h1
  obtain ⟨l, -, h2⟩ := List.mem_map.mp h1
  rw [← h2] at hw
  obtain ⟨n, -, h3⟩ := List.mem_map.mp hw
  rw [← h3]
  exact hp n
theorem pw {args : Array Value} {s : State} (hp : ∀ n, (pk 12 TT n).before args s = true) (n : Nat) {w : Cond} (h : pk 12 TT n = w) : w.before args s = true := h ▸ hp n
theorem stL_in : ∀ q ∈ ssz, Cond.stringRef q.1 q.2.1 q.2.2.1 ∈ lw_tbl ∧ q.2.2.2.length < 2 ^ 31 := by decide +kernel
def emE : Term := .static "java/util/ArrayList" "DEFAULTCAPACITY_EMPTY_ELEMENTDATA" "[Ljava/lang/Object;"
theorem nz_in : ∀ q ∈ nsz, Cond.methodLinkNest q.1 q.2.1 q.2.2.1 q.2.2.2 ∈ lw_tbl := by decide +kernel
theorem cz_in : ∀ C ∈ csz, Cond.castable C "java/lang/Object" ∈ lw_tbl := by decide +kernel
theorem ao_in : ∀ C ∈ aoz, Cond.arrayOver (.object C) ∈ lw_tbl := by decide +kernel
theorem lw_in : ∀ w ∈ ledW, w ∈ lw_tbl := by decide +kernel
section START
variable {args : Array Value} {s : State} {A : Nat → Prop}
theorem str_of (hp : ∀ n, (pk 12 TT n).before args s = true) (ht : ∀ w ∈ lw_tbl, w.before args s = true) (hA : ∀ a : Nat, a < s.heap.size → ¬ A a) {q : String × Nat × String × List Nat} (hq : q ∈ ssz) : ∃ a v : Nat, vk_R q.1 q.2.1 q.2.2.1 a s ∧ va_O "java/lang/String" a A s s.heap ∧ va_OF "java/lang/String" "code\x72" "B" (.int 0) a A s s.heap ∧ va_OF "java/lang/String" "value" "[B" (.ref v) a A s s.heap ∧ va_T .byte v q.2.2.2.length (fun j => .int (Int32.ofNat (q.2.2.2.getD j 0))) A s s.heap := by
  have hw := stW_ok hp q hq
  have h1 := hw (.exactly (stT q) "java/lang/String") (by simp [stW])
  have h2 := hw (.eq (.field (stT q) "java/lang/String" "code\x72" "B") (.int 0)) (by simp [stW])
  have h3 := hw (.arrayOf (stV q) .byte) (by simp [stW])
  have h4 := hw (.eq (.length (stV q)) (.int (Int32.ofNat q.2.2.2.length))) (by simp [stW])
  have h5 : ∀ j : Nat, j < q.2.2.2.length → (Cond.eq (.elem (stV q) (.int (Int32.ofNat j))) (.int (Int32.ofNat (q.2.2.2.getD j 0)))).before args s = true := fun j hj => hw _ (List.mem_append_right _ (List.mem_map.mpr ⟨j, List.mem_range.mpr hj, rfl⟩))
  obtain ⟨a, c, cA, kA, q1, q2, q3, q4, q5, q6, -⟩ := Cond.exactly_spec (args := args) (first := s) (o := none) (s := s) (idx := []) (t := stT q) (cls := "java/lang/String") h1
  obtain ⟨t, ht', hT⟩ := va_Tof (f := fun j => .int (Int32.ofNat (q.2.2.2.getD j 0))) (A := A) (stL_in q hq).2 h3 (va_eqt h4) (fun j hj => va_eqt (h5 j hj)) hA
  exact ⟨a, t, vk_R.of (A := args) (ht _ (stL_in q hq).1) q1, va_Oof h1 q1 hA, vk_OFof q1 (va_eqt h2) hA, vk_OFof q1 ht' hA, hT⟩
theorem cl_of (ht : ∀ w ∈ lw_tbl, w.before args s = true) : ∀ r ∈ clz, ∃ (cC : ClassId) (iS : Nat → Nat), u_Kn s r.1 r.2.1 r.2.2 cC iS := by
  have hg : ∀ w ∈ gtbl, w.before args s = true := fun w hw => ht w (List.mem_filter.mp hw).1
  have k : ∀ {C : String} {T : u_T} {N n : Nat}, (∀ w ∈ u_ws C T N, w ∈ gtbl) → Cond.instantiable C n ∈ lw_tbl → ∃ (cC : ClassId) (iS : Nat → Nat), u_Kn s C T N cC iS := fun h1 h2 => u_known hg h1 (ht _ h2)
  exact List.forall_mem_cons.mpr ⟨k (n := 5) uw_X0 (by decide +kernel), List.forall_mem_cons.mpr ⟨k (n := 4) uw_X1 (by decide +kernel), List.forall_mem_cons.mpr ⟨k (n := 9) uw_X2 (by decide +kernel), List.forall_mem_cons.mpr ⟨k (n := 11) uw_X3 (by decide +kernel), List.forall_mem_cons.mpr ⟨k (n := 5) uw_X4 (by decide +kernel), List.forall_mem_cons.mpr ⟨k (n := 7) uw_X5 (by decide +kernel), List.forall_mem_cons.mpr ⟨k (n := 1) uw_X6 (by decide +kernel), List.forall_mem_cons.mpr ⟨k (n := 5) uw_X7 (by decide +kernel), List.forall_mem_cons.mpr ⟨k (n := 9) uw_X8 (by decide +kernel), List.forall_mem_cons.mpr ⟨k (n := 8) uw_X9 (by decide +kernel), List.forall_mem_cons.mpr ⟨k (n := 5) uw_X10 (by decide +kernel), List.forall_mem_cons.mpr ⟨k (n := 12) uw_X11 (by decide +kernel), List.forall_mem_cons.mpr ⟨k (n := 42) uw_X12 (by decide +kernel), List.forall_mem_cons.mpr ⟨k (n := 3) uw_J (by decide +kernel), fun r hr => nomatch hr⟩⟩⟩⟩⟩⟩⟩⟩⟩⟩⟩⟩⟩⟩
def AK (s : State) (c : ClassId) (ty : FieldType) : Prop := ArrOfT s c ty ∧ va_RA s c ty ∧ s.vm.findClass ("[" ++ ty.toString) = some c
theorem ak_c {ty : FieldType} (h : (Cond.arrayClass ty).before args s = true) (hr : ∀ c, s.vm.findClass ("[" ++ ty.toString) = some c → va_RA s c ty) : ∃ c, AK s c ty := by
  obtain ⟨c, k, comp, h1, h2, h3⟩ := Cond.arrayClass_spec (args := args) (first := s) (o := none) (s := s) (idx := []) h
  exact ⟨c, fun n z => ⟨(fun q hq => by cases hq), k, h2, comp, h3⟩, hr c h1, h1⟩
theorem ak_o {C : String} (h : (Cond.arrayOver (.object C)).before args s = true) : ∃ c, AK s c (.object C) := by
  obtain ⟨comp, c, k, h1, -, h3, h4, h5⟩ := Cond.arrayOver_spec (args := args) (first := s) (o := none) (s := s) (idx := []) h
  exact ⟨c, fun n z => ⟨(fun q hq => by cases hq), k, h3, comp, h4⟩, ⟨k, comp, h3, h4, h1, h5⟩, h5⟩
theorem ak_a {t : FieldType} (h : (Cond.arrayOver (.array t)).before args s = true) : ∃ c, AK s c (.array t) := by
  obtain ⟨comp, c, k, h1, -, h3, h4, h5⟩ := arrayOverA_spec (args := args) (first := s) (o := none) (s := s) (idx := []) h
  exact ⟨c, fun n z => ⟨(fun q hq => by cases hq), k, h3, comp, h4⟩, h5, h5⟩
theorem ar_of (ht : ∀ w ∈ lw_tbl, w.before args s = true) {scr : Cell} (hs : s.isArrayOf scr .int) : ∃ f : Nat → ClassId, f 7 = scr.cls ∧ (∀ (k : Nat) (ty : FieldType), akz[k]? = some ty → ArrOfT s (f k) ty ∧ (k < 7 → va_RA s (f k) ty ∧ s.vm.findClass ("[" ++ ty.toString) = some (f k))) ∧ AK s (f 6) (.object "java/lang/Object") := by
  obtain ⟨c0, a0⟩ := ak_c (ty := .int) (ht _ (by decide +kernel)) (fun c h => h)
  obtain ⟨c1, a1⟩ := ak_c (ty := .boolean) (ht _ (by decide +kernel)) (fun c h => h)
  obtain ⟨c2, a2⟩ := ak_c (ty := .long) (ht _ (by decide +kernel)) (fun c h => h)
  obtain ⟨c3, a3⟩ := ak_o (C := "CoinsLaid$Lay") (ht _ (by decide +kernel))
  obtain ⟨c4, a4⟩ := ak_o (C := "CoinsLaid$Laid") (ht _ (by decide +kernel))
  obtain ⟨c5, a5⟩ := ak_a (t := .int) (ht _ (by decide +kernel))
  obtain ⟨c6, a6⟩ := ak_o (C := "java/lang/Object") (ht _ (by decide +kernel))
  obtain ⟨h1, k, h2, comp, h3⟩ := hs
  refine ⟨fun k => match k with | 0 => c0 | 1 => c1 | 2 => c2 | 3 => c3 | 4 => c4 | 5 => c5 | 6 => c6 | _ => scr.cls, rfl, fun j ty hj => ?_, a6⟩
  rcases j with _ | _ | _ | _ | _ | _ | _ | _ | j
  · cases hj; exact ⟨a0.1, fun _ => a0.2⟩
  · cases hj; exact ⟨a1.1, fun _ => a1.2⟩
  · cases hj; exact ⟨a2.1, fun _ => a2.2⟩
  · cases hj; exact ⟨a3.1, fun _ => a3.2⟩
  · cases hj; exact ⟨a4.1, fun _ => a4.2⟩
  · cases hj; exact ⟨a5.1, fun _ => a5.2⟩
  · cases hj; exact ⟨a6.1, fun _ => a6.2⟩
  · cases hj; exact ⟨fun n z => ⟨(fun q hq => by cases hq), k, h2, comp, h3⟩, fun h => absurd h (by decide)⟩
  · cases hj
theorem w_of (hp : ∀ n, (pk 12 TT n).before args s = true) (ht : ∀ w ∈ lw_tbl, w.before args s = true) {b L : Nat} {xs : Nat → Int32} (hX : va_X b L xs s s.heap) (hL : L ≤ 3072) : ∃ G : GG, gH G = s.heap ∧ Wld G s ∧ ∃ σ : Hp, Rep G σ s.heap ∧ σ b = some (sA L xs) ∧ σ (gE G) = some (rA 6 0 fun _ => none) := by
  have hA : ∀ a : Nat, a < s.heap.size → ¬ (fun q => s.heap.size ≤ q) a := fun a h h' => Nat.lt_irrefl _ (Nat.lt_of_lt_of_le h h')
  obtain ⟨scr, x1, x2, x3, x4, x5⟩ := hX
  have hstr : ∀ i : Nat, ∃ p : Nat × Nat, ∀ q, ssz[i]? = some q → vk_R q.1 q.2.1 q.2.2.1 p.1 s ∧ va_O "java/lang/String" p.1 (fun q => s.heap.size ≤ q) s s.heap ∧ va_OF "java/lang/String" "code\x72" "B" (.int 0) p.1 (fun q => s.heap.size ≤ q) s s.heap ∧ va_OF "java/lang/String" "value" "[B" (.ref p.2) p.1 (fun q => s.heap.size ≤ q) s s.heap ∧ va_T .byte p.2 q.2.2.2.length (fun j => .int (Int32.ofNat (q.2.2.2.getD j 0))) (fun q => s.heap.size ≤ q) s s.heap := fun i => by
    cases e : ssz[i]? with
    | none => exact ⟨(0, 0), fun q hq => by cases hq⟩
    | some q0 =>
      obtain ⟨a, v, h⟩ := str_of hp ht hA (List.mem_of_getElem? e)
      exact ⟨(a, v), fun q hq => by cases hq; exact h⟩
  obtain ⟨fs, hfs⟩ := Classical.axiomOfChoice hstr
  have hcls : ∀ i : Nat, ∃ p : ClassId × (Nat → Nat), ∀ r, clz[i]? = some r → u_Kn s r.1 r.2.1 r.2.2 p.1 p.2 := fun i => by
    cases e : clz[i]? with
    | none => exact ⟨(0, fun _ => 0), fun q hq => by cases hq⟩
    | some q0 =>
      obtain ⟨a, v, h⟩ := cl_of ht q0 (List.mem_of_getElem? e)
      exact ⟨(a, v), fun q hq => by cases hq; exact h⟩
  obtain ⟨fc, hfc⟩ := Classical.axiomOfChoice hcls
  obtain ⟨fa, f7, hfa, f6⟩ := ar_of ht x2
  obtain ⟨e, c, cE, kE, e1, e2, e3, e4, e5, e6, -⟩ := Cond.exactly_spec (args := args) (first := s) (o := none) (s := s) (idx := []) (t := emE) (cls := "[Ljava/lang/Object;") (pw hp 385/-EX-/ (by decide +kernel))
  have e7 : cE.slots.size = 0 := by
    have hv := va_eqt (args := args) (s := s) (t := .length emE) (z := 0) (pw hp 897/-LE-/ (by decide +kernel))
    obtain ⟨b9, cell, ht9, harr, hz⟩ := Term.length_spec hv
    cases ht9.symm.trans e1
    have hsz : cell.slots.size < 2 ^ 31 := by
      simp only [Term.eval, ht9, harr, Option.bind_eq_bind, Option.bind_some] at hv
      by_cases hlt : cell.slots.size < 2147483648
      · exact hlt
      · simp [hlt] at hv
    obtain ⟨hcell, -, -, -⟩ := State.arrayAt?_spec harr
    cases hcell.symm.trans e3
    injection hz with hz
    have h9 : nI cE.slots.size = nI 0 := hz.symm
    have h8 := congrArg Int32.toNatClampNeg h9
    rw [nI_clamp hsz, nI_clamp (by decide)] at h8
    exact h8
  obtain ⟨mi, hmi⟩ := va_Mi.of (args := args) (s := s) (C := "[Ljava/lang/Object;") (pw hp 201/-MI-/ (by decide +kernel))
  have hne : e ≠ b := by
    rintro rfl
    cases x1.symm.trans e3
    obtain ⟨-, k1, g1, comp, g2⟩ := x2
    obtain ⟨k2, comp2, g3, g4, -, g5⟩ := f6.2.1
    have g6 : fa 6 = c := Option.some.inj (g5.symm.trans e2)
    rw [g6, ← e6] at g3
    cases g1.symm.trans g3
    rw [g2] at g4
    cases g4
  refine ⟨(fun i => (fc i).1, fun i => (fc i).2, fa, s.heap, fun i => (fs i).1, fun i => (fs i).2, e, mi), rfl, ⟨⟨fun i q hq => hfc i q hq, hfa⟩, ⟨Nat.le_refl _, fun q _ => rfl⟩, fun i q hq => hfs i q hq, fun q hq => va_Nw.of rfl (ht _ (nz_in q hq)), va_Zof (ht _ (by decide +kernel)) (ht _ (by decide +kernel)) e1 hA, va_Zof (ht _ (by decide +kernel)) (ht _ (by decide +kernel)) (va_eqt (pw hp 65/-CS-/ (by decide +kernel))) hA, hmi, va_Dc.of (ht _ (by decide +kernel)), fun C hC => va_Nw.of rfl (ht _ (cz_in C hC)), fun C hC => va_AO.of (ht _ (ao_in C hC)), ht (.arrayOver (.array .int)) (by decide +kernel), va_Zqof (ht _ (by decide +kernel)) (ht _ (by decide +kernel)) (pw hp 321/-SI-/ (by decide +kernel)) hA, vx_Zqof (ht _ (by decide +kernel)) (ht _ (by decide +kernel)) (pw hp 961/-US-/ (by decide +kernel)) hA, vx_Zqof (ht _ (by decide +kernel)) (ht _ (by decide +kernel)) (pw hp 33/-SS-/ (by decide +kernel)) hA, fun w hw => va_Nw.of (Bool.and_eq_true _ _ ▸ List.all_eq_true.mp ledW_ok w hw).1 (ht w (lw_in w hw))⟩, fun q => if q = b then some (sA L xs) else if q = e then some (rA 6 0 fun _ => none) else none, fun a c' h => ?_, by simp, ?_⟩
  · dsimp only at h
    split at h
    · next h0 =>
      subst h0
      cases h
      exact ⟨fun _ => Or.inl rfl, by show 7 < 8; decide, by show L < 2 ^ 31; omega, Or.inr ⟨scr, x1, f7.symm, x2.1, x4, Or.inl ⟨rfl, x3, fun j hj => x5 j hj⟩⟩⟩
    · split at h
      · next h1 =>
        subst h1
        cases h
        exact ⟨fun h9 => absurd h9 (Nat.lt_irrefl 0), by show 6 < 8; decide, by show 0 < 2 ^ 31; decide, Or.inr ⟨cE, e3, e6.trans (Option.some.inj (f6.2.2.symm.trans e2)).symm, fun z hz => (by rw [hz] at e5; cases e5), e7, Or.inr ⟨rfl, e5⟩⟩⟩
      · cases h
  · show (if e = b then some (sA L xs) else if e = e then some (rA 6 0 fun _ => none) else none) = _
    rw [if_neg hne, if_pos rfl]
theorem whole_start (l : Launch) (hflags : l.flags = flags0) {p : Program} {e : Env} {m : MethodId} {below : List Frame} {meth : Method} {c : Code} {b L : Nat} {xs : Nat → Int32} (hL : L ≤ 3072) (hn : meth.name = yL_law.name) (h : lw_At p s m meth c b L xs) : W p l e room_1 s m #[Value.ref b] below meth c s.heap [] 0 0 (lw_Z below #[Value.ref b] s) (entryFrame m ([Value.ref b] : List Value).toArray 7) := by
  obtain ⟨h1, h2, h3, h4, h5, h6, h7, h8, h9, h10⟩ := h
  have hl : l.stackTraces = false := by
    unfold Launch.stackTraces
    rw [hflags]
    decide +kernel
  obtain ⟨G, hG, hW, σ, hR, hb, hE⟩ := w_of (fun n => pk_ok 12 TT n h10) h6 h7 hL
  have k := b_L_law_0 (z_start (d := 0) hl hL hb hE)
  have hlv := lv_entry ([aR (some b)].map av) (n := 7) (Nat.le_of_ble_eq_true rfl)
  rw [← az_args_map] at hlv
  have k2 := k p e room_1 s m #[Value.ref b] below meth c _ s.heap [] 0 0 601024 7293034 (by decide) (by decide) (Nat.le_refl _) (Nat.le_refl _) ⟨h1, h2, h4, h5, fun w hw => (List.mem_cons.mp hw).elim (fun e => h6 w (List.mem_filter.mp (e ▸ cx0_in)).1) (fun h => h6 w (List.mem_filter.mp h).1), h3, h9, hW, hn⟩ hlv hR va_S.rf (by decide) (by decide)
  intro T hT X
  show ∃ t, Steps p.tables e below (T.setTop (entryFrame m (([aR (some b)] : List AV).map av).toArray 7)) t ∧ _
  rw [lg_entry_eq]
  obtain ⟨t, a1, b1⟩ := k2 T hT X
  exact ⟨t, a1, b1 ⟨fun b σ h => h, hG, rfl, rfl⟩ b rfl⟩
end START
